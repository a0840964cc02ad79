/-! ===== fill ===== -/
theorem zj1E {A β : Type} (rest : A → Option β) (reg : (A → Option β) → Option β) : zj1 rest reg = reg rest := rfl
def payX (y : Nat) (x : Int32) : Nat := if x = -1 then 0 else 9 - dist x.toNatClampNeg y
theorem v_orangesFor {w y : Nat} (hw : w < 2 ^ 30) (hy : y < 2 ^ 30) : F_X8_orangesFor (nI w) (nI y) = some (nI (9 - dist w y)) := by
  have hd : dist w y < 2 ^ 30 := dist_lt hw hy
  unfold F_X8_orangesFor
  rw [absN hw hy]
  simp (disch := omega) only [bdE, show (9 : Int32) = nI 9 from rfl, subPos]
  by_cases h : dist w y < 9
  · rw [if_pos h, pk_sub (by omega)]
  · rw [if_neg h, show 9 - dist w y = 0 by omega]; rfl
theorem v_seepsAt {S y : Nat} {sy : Nat → Nat} {f : Nat → Int32} (hS : S ≤ 6) (hy : y < 2 ^ 30) (hf : ∀ s, s < S → f s = nI (sy s) ∧ sy s < 2 ^ 30) : F_X3_seepsAt (nI S) f (nI y) = some (nI (bitsN S (fun s => decide (sy s = y)))) := by
  unfold F_X3_seepsAt
  refine zl2_for (fun i => nI (bitsN i (fun s => decide (sy s = y)))) (fun i => nI i) S (fun i hi k => ?_) (fun k => ?_) S 0 FU rfl (by omega) (by unfold FU; omega)
  · obtain ⟨e1, e2⟩ := hf i hi
    rw [← bitsN_or i (fun s => decide (sy s = y))]
    simp (disch := omega) only [leN, eqN, show ¬ S ≤ i by omega, e1, shl1, fa_or, zj0, zj1, zj2, zj3, zj4, zj9, bdE, nI_add, pk_mul, pk_sub, rdN, wrN, zc0_e, zc1_e, zc2_e, zc3_e, zc4_e, zc5_e, nI_1, nI_clamp, bzp, ne10, eq00, ne01, eq11, if_true, if_false, or0, ckZ1, ckZ0, ckZp, L2, L3, L4, L5, L6, L7, L8, L9, L10, L11, L12, L13, L18, L19, L23, L24, L32, L48, L57, L59, L76, L96, L97, L99, L100, L122, L120, L200, L999, L9999]
    by_cases h : sy i = y <;> simp [h]
  · simp (disch := omega) only [leN, Nat.le_refl, if_true]
/-- sets without the members of another -/
theorem andNotB (S : Nat) (p q : Nat → Bool) : nI (bitsN S p) &&& (nI (bitsN S q) ^^^ (-1 : Int32)) = nI (bitsN S (fun s => p s && !q s)) := by
  apply Int32.toBitVec_inj.1
  show BitVec.ofNat 32 (bitsN S p) &&& (BitVec.ofNat 32 (bitsN S q) ^^^ (-1 : Int32).toBitVec) = BitVec.ofNat 32 (bitsN S (fun s => p s && !q s))
  have h1 : (-1 : Int32).toBitVec = BitVec.allOnes 32 := by decide
  rw [h1]
  apply BitVec.eq_of_getLsbD_eq
  intro i hi
  simp only [BitVec.getLsbD_and, BitVec.getLsbD_xor, BitVec.getLsbD_ofNat, BitVec.getLsbD_allOnes, hi, decide_true, Bool.true_and, bitsN_test]
  cases decide (i < S) <;> cases p i <;> cases q i <;> rfl
def anyQ (p : Nat → Bool) : Nat → Bool
  | 0 => false
  | n + 1 => anyQ p n || p n
theorem bitsN_any (p : Nat → Bool) (n : Nat) : bitsN n p = 0 ↔ anyQ p n = false := by
  induction n with
  | zero => simp [bitsN, anyQ]
  | succ n ih =>
    simp only [bitsN, anyQ, Bool.or_eq_false_iff, ← ih]
    have := Nat.two_pow_pos n
    cases p n <;> simp <;> omega
def payP (T : TA) (N : NA) (y : Nat) : Nat → Bool := fun s => decide (tSy T s = y) && !nF N s && decide (nS N s < 100)
def fillN (T : TA) (N : NA) (y : Nat) (X : Nat → Int32) : NA := (nH N, fun s => nF N s || decide (tSy T s = y), nD N, nS N, nY N, fun c => if anyQ (payP T N y) (tS T) then nO N c + payX y (X c) else nO N c)
def sumX (y : Nat) (X : Nat → Int32) : Nat → Nat
  | 0 => 0
  | n + 1 => sumX y X n + payX y (X n)
theorem v_fillAt {T : TA} {N : NA} {M : Nat} {yards seeps children hours filled tl : Int32} {tides seepYard seepSize growth level kind childYard pace ear size yard oranges : Nat → Int32} {y : Nat} {X : Nat → Int32} (hT : okT T) (hN : okN T N M) (hM : M ≤ 30000) (hy : y < tY T) (h1 : rT yards seeps children tides seepYard seepSize growth level kind childYard pace ear T) (h2 : rN hours filled tl size yard oranges T N)
    (hX : ∀ c, c < tC T → F_X3_toldBy seeps seepYard kind ear hours filled yard (nI c) = some (X c) ∧ (X c = -1 ∨ ∃ w, w < tY T ∧ X c = nI w)) :
    ∃ f' o', F_X3_fillAt seeps children seepYard kind ear hours filled size yard oranges (nI y) = some (nI (if anyQ (payP T N y) (tS T) then sumX y X (tC T) else 0), f', o') ∧ rN hours f' tl size yard o' T (fillN T N y X) := by
  have hT' := hT
  obtain ⟨a1, a2, a3, a4, a5, a6, a7⟩ := hT'
  have q2 : seeps = nI (tS T) := h1.2.1
  have q3 : children = nI (tC T) := h1.2.2.1
  obtain ⟨p1, p2, p3, p4, p5⟩ := h2
  obtain ⟨o1, o2, o3⟩ := hN
  have hs := v_seepsAt (S := tS T) (y := y) (sy := tSy T) (f := seepYard) a3 (by omega) (fun s hs => ⟨(h1.2.2.2.2.1 s hs).1, by have := (a6 s hs).1; omega⟩)
  have hb := v_broken (S := tS T) (Z := nS N) (size := size) a3 (fun s hs => ⟨p4 s hs, (o2 s hs).2⟩)
  have hw : (nI (bitsN (tS T) (fun s => decide (tSy T s = y))) &&& (nI (bitsN (tS T) (nF N)) ^^^ (-1 : Int32))) &&& (nI (bitsN (tS T) (brokenP (nS N))) ^^^ (-1 : Int32)) = nI (bitsN (tS T) (payP T N y)) := by
    rw [andNotB, andNotB]
    congr 1
    refine bitsN_congr (fun i hi => ?_)
    unfold payP brokenP
    congr 1
    by_cases h : nS N i < 100
    · simp [h]
    · simp [h, show 100 ≤ nS N i by omega]
  have hpl := bitsN_31 (n := tS T) (p := payP T N y) (by omega)
  have hf' : nI (bitsN (tS T) (nF N)) ||| nI (bitsN (tS T) (fun s => decide (tSy T s = y))) = nI (bitsN (tS T) (fun s => nF N s || decide (tSy T s = y))) := by
    rw [fa_or]
    congr 1
    apply Nat.eq_of_testBit_eq
    intro i
    rw [Nat.testBit_or, bitsN_test, bitsN_test, bitsN_test]
    cases decide (i < tS T) <;> rfl
  unfold F_X3_fillAt
  rw [q2, hs, zc1_e, hb, zc1_e, p2, hw, zj1E]
  have hz0 : (nI (bitsN (tS T) (payP T N y)) = (0 : Int32)) = (anyQ (payP T N y) (tS T) = false) := by rw [eq0N (by omega)]; exact propext (bitsN_any _ _)
  cases hA : anyQ (payP T N y) (tS T)
  · rw [if_pos (hz0 ▸ hA)]
    refine ⟨_, oranges, ?_, ⟨p1, rfl, p3, p4, fun c hc => ⟨(p5 c hc).1, ?_⟩⟩⟩
    · rw [show FU = 1999 + 1 from rfl]
      show zj0 _ _ = _
      simp only [zj0, eq00, if_true, bdE, hf']
      split <;> rfl
    · show oranges c = nI (if anyQ (payP T N y) (tS T) then nO N c + payX y (X c) else nO N c)
      rw [hA]; exact (p5 c hc).2
  · rw [if_neg (fun h => by rw [hz0, hA] at h; cases h)]
    have key : ∃ r, zl3 (fun x7 x8 h9 ag10 => zj0 (bd (nI (bitsN (tS T) (nF N)) ||| nI (bitsN (tS T) (fun s => decide (tSy T s = y)))) (fun v12 => some (x7, v12, h9))) (fun K11 => if children ≤ x8 then (K11) else (if (1 : Int32) = 0 then (K11) else (zc1 (F_X3_toldBy (nI (tS T)) seepYard kind ear hours (nI (bitsN (tS T) (nF N))) yard x8) (fun v15 => zj1 (fun y17 => rd 5 h9 x8 (fun v19 => bd (v19 + y17) (fun v21 => wr 5 x8 (upd h9 (x8).toNatClampNeg v21) (fun g22 => bd (x7 + y17) (fun v24 => bd (x8 + (1 : Int32)) (fun v25 => ag10 v24 v25 g22)))))) (fun K18 => if v15 = (-1 : Int32) then (K18 (0 : Int32)) else (zc1 (F_X8_orangesFor v15 (nI y)) (fun v27 => K18 v27)))))))) FU (0 : Int32) (0 : Int32) oranges = some r ∧ (r.1 = nI (sumX y X (tC T)) ∧ r.2.1 = nI (bitsN (tS T) (fun s => nF N s || decide (tSy T s = y))) ∧ ∀ c, c < tC T → r.2.2 c = nI (nO N c + payX y (X c))) := by
      refine zl3_inv (fun i x j o => x = nI (sumX y X i) ∧ j = nI i ∧ ∀ c, c < tC T → o c = nI (if c < i then nO N c + payX y (X c) else nO N c)) (tC T) (fun i x j o hi hI => ?_) (fun x j o hI k => ?_) (tC T) 0 FU _ _ _ rfl (by omega) (by unfold FU; omega) ⟨rfl, rfl, fun c hc => by simpa using (p5 c hc).2⟩
      · obtain ⟨rfl, rfl, i3⟩ := hI
        obtain ⟨g1, g2⟩ := hX i hi
        rw [q2, p2] at g1
        have g3 := i3 i hi
        rw [if_neg (Nat.lt_irrefl i)] at g3
        refine ⟨nI (sumX y X (i + 1)), nI (i + 1), upd o i (nI (nO N i + payX y (X i))), ⟨rfl, rfl, fun c hc => ?_⟩, fun k => ?_⟩
        · rw [upd_at]
          by_cases e : c = i
          · subst e; simp
          · rw [if_neg e, i3 c hc]
            by_cases e2 : c < i
            · simp only [e2, show c < i + 1 by omega, if_true]
            · simp only [e2, show ¬ c < i + 1 by omega, if_false]
        · rcases g2 with g2 | ⟨w, w1, w2⟩
          · have hp : payX y (-1) = 0 := rfl
            have z1 : ∀ a, nI a + (0 : Int32) = nI a := fun a => by rw [l0, nI_add, Nat.add_zero]
            simp (disch := omega) only [q3, leN, show ¬ tC T ≤ i by omega, g1, g2, g3, z1, sumX, hp, Nat.add_zero, zj0, zj1, zj2, zj3, zj4, zj9, bdE, nI_add, pk_mul, pk_sub, rdN, wrN, zc0_e, zc1_e, zc2_e, zc3_e, zc4_e, zc5_e, nI_1, nI_clamp, bzp, ne10, eq00, ne01, eq11, if_true, if_false, or0, ckZ1, ckZ0, ckZp, L2, L3, L4, L5, L6, L7, L8, L9, L10, L11, L12, L13, L18, L19, L23, L24, L32, L48, L57, L59, L76, L96, L97, L99, L100, L122, L120, L200, L999, L9999]
          · have hne : (nI w = (-1 : Int32)) = False := neM1 (by omega)
            have hp : payX y (nI w) = 9 - dist w y := by unfold payX; rw [if_neg (fun h => hne.mp h), nI_clamp (by omega)]
            simp (disch := omega) only [q3, leN, show ¬ tC T ≤ i by omega, g1, w2, hne, g3, v_orangesFor, sumX, hp, zj0, zj1, zj2, zj3, zj4, zj9, bdE, nI_add, pk_mul, pk_sub, rdN, wrN, zc0_e, zc1_e, zc2_e, zc3_e, zc4_e, zc5_e, nI_1, nI_clamp, bzp, ne10, eq00, ne01, eq11, if_true, if_false, or0, ckZ1, ckZ0, ckZp, L2, L3, L4, L5, L6, L7, L8, L9, L10, L11, L12, L13, L18, L19, L23, L24, L32, L48, L57, L59, L76, L96, L97, L99, L100, L122, L120, L200, L999, L9999]
      · obtain ⟨rfl, rfl, i3⟩ := hI
        simp (disch := omega) only [q3, leN, Nat.le_refl, if_true, zj0, bdE, hf']
        exact ⟨_, rfl, rfl, rfl, fun c hc => show o c = _ from by rw [i3 c hc, if_pos hc]⟩
    obtain ⟨⟨k1, k2, k3⟩, e1, e2, e3, e4⟩ := key
    refine ⟨k2, k3, ?_, ⟨p1, e3, p3, p4, fun c hc => ⟨(p5 c hc).1, ?_⟩⟩⟩
    · refine e1.trans ?_
      rw [show k1 = _ from e2]; rfl
    · show k3 c = nI (if anyQ (payP T N y) (tS T) then nO N c + payX y (X c) else nO N c)
      rw [hA]; exact e4 c hc
