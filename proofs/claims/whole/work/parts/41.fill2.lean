/-! ===== fill of the reference ===== -/
theorem ex_pair {A B : Type} {o : Option (A × B)} {a : A} {P : B → Prop} (h : ∃ r, o = some r ∧ (r.1 = a ∧ P r.2)) : ∃ b, o = some (a, b) ∧ P b := by
  obtain ⟨⟨x, y⟩, h1, h2, h3⟩ := h
  exact ⟨y, by rw [h1, ← show x = a from h2], h3⟩
theorem zl3_now {A B C β : Type} {body : A → B → C → (A → B → C → Option β) → Option β} {a : A} {b : B} {c : C} {R : Option β} (h : ∀ k, body a b c k = R) : zl3 body FU a b c = R := (show zl3 body FU a b c = body a b c (zl3 body 1999) from rfl).trans (h _)
theorem m_fill {T : TA} {N : NA} {M : Nat} {my ms mc : Int32} {row mt mseeps mk mp me : Nat → Int32} {y : Nat} {X : Nat → Int32} (hT : okT T) (hN : okN T N M) (hM : M ≤ 30000) (hy : y < tY T) (h3 : mT my ms mc row mt mseeps mk mp me T) (h4 : mN 0 row T N)
    (hX : ∀ c, c < tC T → (X c = -1 ∨ ∃ w, w < tY T ∧ X c = nI w) ∧ (tKd T c = 2 → X c = nI (nY N c)) ∧ (¬ tKd T c = 2 → tellR (hearN T N c).testBit (tS T) (tSy T) (nY N c) (X c))) :
    ∃ row', F_X9_fill my ms mc row mseeps mk me (nI y) = some (nI (if anyQ (payP T N y) (tS T) then sumX y X (tC T) else 0), row') ∧ mN 0 row' T (fillN T N y X) ∧ ∀ j, 19 ≤ j → row' j = row j := by
  have hT' := hT
  obtain ⟨a1, a2, a3, a4, a5, a6, a7⟩ := hT'
  have h3' := h3
  obtain ⟨q1, q2, q3, q4, q5, q6⟩ := h3'
  have h4' := h4
  obtain ⟨p1, p2, p3, p4, p5⟩ := h4'
  have hN' := hN
  obtain ⟨o1, o2, o3⟩ := hN'
  simp only [Nat.zero_add] at p1 p2 p3 p4 p5
  have hbS := bitsN_31 (n := tS T) (p := nF N) (by omega)
  have hf' : nI (bitsN (tS T) (nF N)) ||| nI (bitsN (tS T) (fun s => decide (tSy T s = y) && !nF N s)) = nI (bitsN (tS T) (fun s => nF N s || decide (tSy T s = y))) := by
    rw [fa_or]
    congr 1
    apply Nat.eq_of_testBit_eq
    intro i
    rw [Nat.testBit_or, bitsN_test, bitsN_test, bitsN_test]
    cases decide (i < tS T) <;> cases nF N i <;> simp
  unfold F_X9_fill
  rw [q1, (isYard_ix (show tY T < 2 ^ 30 by omega)).1 y hy, zc1_e, if_neg (by decide)]
  refine ex_pair (P := fun row' => mN 0 row' T (fillN T N y X) ∧ ∀ j, 19 ≤ j → row' j = row j) ?_
  refine zl3_inv (fun i x4 x5 x6 => x4 = (if anyQ (payP T N y) i then (1 : Int32) else 0) ∧ x5 = nI (bitsN i (fun s => decide (tSy T s = y) && !nF N s)) ∧ x6 = nI i) (tS T) (fun i x4 x5 x6 hi hI => ?_) (fun x4 x5 x6 hI k => ?_) (tS T) 0 FU _ _ _ rfl (by omega) (by unfold FU; omega) ⟨rfl, rfl, rfl⟩
  · obtain ⟨rfl, rfl, rfl⟩ := hI
    obtain ⟨u1, u2, u3, u4, u5⟩ := a6 i hi
    have g1 := (q5 i hi).1
    have g2 := p4 i hi
    have g3 := (o2 i hi).2
    have htb : (bitsN (tS T) (nF N)).testBit i = nF N i := by rw [bitsN_test]; simp [hi]
    refine ⟨if anyQ (payP T N y) (i + 1) then (1 : Int32) else 0, nI (bitsN (i + 1) (fun s => decide (tSy T s = y) && !nF N s)), nI (i + 1), ⟨rfl, rfl, rfl⟩, fun k => ?_⟩
    rw [← bitsN_or i (fun s => decide (tSy T s = y) && !nF N s)]
    have hq : anyQ (payP T N y) (i + 1) = (anyQ (payP T N y) i || (decide (tSy T i = y) && !nF N i && decide (nS N i < 100))) := rfl
    rw [hq]
    simp (disch := omega) only [q2, leN, eqN, show ¬ tS T ≤ i by omega, g1, g2, show rd 95 row (nI 6) = rd 95 row (nI 6) from rfl, p2, v_has, htb, shl1, fa_or, zj0, zj1, zj2, zj3, zj4, zj9, bdE, nI_add, pk_mul, pk_sub, rdN, wrN, zc0_e, zc1_e, zc2_e, zc3_e, zc4_e, zc5_e, nI_1, nI_clamp, bzp, ne10, eq00, ne01, eq11, if_true, if_false, or0, ckZ1, ckZ0, ckZp, L2, L3, L4, L5, L6, L7, L8, L9, L10, L11, L12, L13, L18, L19, L23, L24, L32, L48, L57, L59, L76, L96, L97, L99, L100, L122, L120, L200, L999, L9999]
    cases e4 : anyQ (payP T N y) i <;> by_cases e1 : tSy T i = y <;> cases e2 : nF N i <;> by_cases e3 : nS N i < 100 <;> simp [e1, e2, e3, show (100 ≤ nS N i) = ¬ nS N i < 100 from propext (by omega)]
  · obtain ⟨rfl, rfl, rfl⟩ := hI
    simp (disch := omega) only [q2, leN, Nat.le_refl, if_true]
    cases hA : anyQ (payP T N y) (tS T)
    · obtain ⟨R, hR⟩ : ∃ R : Nat → Int32, R = upd row 6 (nI (bitsN (tS T) (fun s => nF N s || decide (tSy T s = y)))) := ⟨_, rfl⟩
      refine ⟨(0, R), zl3_now (fun k => ?_), rfl, ⟨?_, ?_, ?_, fun s hs => ?_, fun c hc => ⟨?_, ?_⟩⟩, fun j hj => ?_⟩
      · simp (disch := omega) only [zj0, Bool.false_eq_true, if_false, eq00, if_true, bdE, show (6 : Int32) = nI 6 from rfl, rdN, wrN, p2, hf', nI_clamp]
        rw [hR]
        split <;> rfl
      · show R (0 + 18) = _; rw [hR, upd_at, if_neg (by omega)]; exact h4.1
      · show R (0 + 6) = _; rw [hR, upd_at, if_pos (by omega)]; rfl
      · show R (0 + 12) = _; rw [hR, upd_at, if_neg (by omega)]; exact h4.2.2.1
      · show R (0 + s) = _; rw [hR, upd_at, if_neg (by omega)]; exact h4.2.2.2.1 s hs
      · show R (0 + 7 + c) = _; rw [hR, upd_at, if_neg (by omega)]; exact (h4.2.2.2.2 c hc).1
      · show R (0 + 13 + c) = nI (if anyQ (payP T N y) (tS T) then nO N c + payX y (X c) else nO N c)
        rw [hR, upd_at, if_neg (by omega), hA]; exact (h4.2.2.2.2 c hc).2
      · show R j = _; rw [hR, upd_at, if_neg (by omega)]
    · refine zl3_inv (fun i x j o => x = nI (sumX y X i) ∧ j = nI i ∧ (∀ c, c < tC T → o (13 + c) = nI (if c < i then nO N c + payX y (X c) else nO N c)) ∧ ∀ j, (j < 13 ∨ 13 + tC T ≤ j) → o j = row j) (tC T) (fun i x j o hi hI => ?_) (fun x j o hI k => ?_) (tC T) 0 FU _ _ _ rfl (by omega) (by unfold FU; omega) ⟨rfl, rfl, fun c hc => by simpa using (p5 c hc).2, fun _ _ => rfl⟩
      · obtain ⟨rfl, rfl, i3, i4⟩ := hI
        have mo : mN 0 o T (nH N, nF N, nD N, nS N, nY N, fun c => if c < i then nO N c + payX y (X c) else nO N c) := by
          refine ⟨?_, ?_, ?_, fun s hs => ?_, fun c hc => ⟨?_, ?_⟩⟩
          · rw [i4 _ (by omega)]; exact h4.1
          · rw [i4 _ (by omega)]; exact h4.2.1
          · rw [i4 _ (by omega)]; exact h4.2.2.1
          · rw [i4 _ (by omega)]; exact h4.2.2.2.1 s hs
          · rw [i4 _ (by omega)]; exact (h4.2.2.2.2 c hc).1
          · rw [show 0 + 13 + c = 13 + c by omega]; exact i3 c hc
        obtain ⟨z, z1, z2⟩ := m_tells hT (N := (nH N, nF N, nD N, nS N, nY N, fun c => if c < i then nO N c + payX y (X c) else nO N c)) hN hM hi h3 mo
        obtain ⟨g2, g3⟩ := hX i hi
        have hz : z = X i := tells_eq (N := N) z2 g3
        rw [hz] at z1
        have g4 := i3 i hi
        rw [if_neg (Nat.lt_irrefl i)] at g4
        refine ⟨nI (sumX y X (i + 1)), nI (i + 1), upd o (13 + i) (nI (nO N i + payX y (X i))), ⟨rfl, rfl, fun c hc => ?_, fun j hj => ?_⟩, fun k => ?_⟩
        · rw [upd_at]
          by_cases e : c = i
          · subst e; simp
          · rw [if_neg (by omega), i3 c hc]
            by_cases e2 : c < i
            · simp only [e2, show c < i + 1 by omega, if_true]
            · simp only [e2, show ¬ c < i + 1 by omega, if_false]
        · rw [upd_at, if_neg (by omega)]; exact i4 j hj
        · rcases g2 with g2 | ⟨w, w1, w2⟩
          · have hp : payX y (-1) = 0 := rfl
            have z3 : ∀ a, nI a + (0 : Int32) = nI a := fun a => by rw [l0, nI_add, Nat.add_zero]
            have z4 : ((0 : Int32) ≤ 0) = True := eq_true (by decide)
            rw [q1, q2] at z1
            simp (disch := omega) only [q1, q3, leN, show ¬ tC T ≤ i by omega, z1, g2, g4, z3, z4, sumX, hp, Nat.add_zero, zj0, zj1, zj2, zj3, zj4, zj9, bdE, nI_add, pk_mul, pk_sub, rdN, wrN, zc0_e, zc1_e, zc2_e, zc3_e, zc4_e, zc5_e, nI_1, nI_clamp, bzp, ne10, eq00, ne01, eq11, if_true, if_false, or0, ckZ1, ckZ0, ckZp, L2, L3, L4, L5, L6, L7, L8, L9, L10, L11, L12, L13, L18, L19, L23, L24, L32, L48, L57, L59, L76, L96, L97, L99, L100, L122, L120, L200, L999, L9999]
          · have hne : (nI w = (-1 : Int32)) = False := neM1 (by omega)
            have hp : payX y (nI w) = 9 - dist w y := by unfold payX; rw [if_neg (fun h => hne.mp h), nI_clamp (by omega)]
            have hd : dist w y < 2 ^ 30 := dist_lt (by omega) (by omega)
            rw [q1, q2] at z1
            simp (disch := omega) only [q1, q3, leN, show ¬ tC T ≤ i by omega, z1, w2, hne, g4, v_far, subLe0, sumX, hp, zj0, zj1, bdE, zc1_e, ne10, if_true, if_false, show (13 : Int32) = nI 13 from rfl, show (9 : Int32) = nI 9 from rfl, nI_add, nI_1, rdN, wrN, nI_clamp]
            by_cases h9 : 9 ≤ dist w y
            · have z3 : ∀ a, nI a + (0 : Int32) = nI a := fun a => by rw [l0, nI_add, Nat.add_zero]
              simp only [h9, if_true, z3, show 9 - dist w y = 0 by omega, Nat.add_zero]
            · simp (disch := omega) only [h9, if_false, pk_sub, nI_add]
      · obtain ⟨rfl, rfl, i3, i4⟩ := hI
        have g6 : o 6 = nI (bitsN (tS T) (nF N)) := by rw [i4 6 (by omega)]; exact p2
        simp (disch := omega) only [q3, leN, Nat.le_refl, if_true, zj0, bdE, show (6 : Int32) = nI 6 from rfl, rdN, wrN, g6, hf', nI_clamp]
        obtain ⟨R, hR⟩ : ∃ R : Nat → Int32, R = upd o 6 (nI (bitsN (tS T) (fun s => nF N s || decide (tSy T s = y)))) := ⟨_, rfl⟩
        rw [← hR]
        refine ⟨_, rfl, rfl, ⟨?_, ?_, ?_, fun s hs => ?_, fun c hc => ⟨?_, ?_⟩⟩, fun j hj => ?_⟩
        · show R (0 + 18) = _; rw [hR, upd_at, if_neg (by omega), i4 _ (by omega)]; exact h4.1
        · show R (0 + 6) = _; rw [hR, upd_at, if_pos (by omega)]; rfl
        · show R (0 + 12) = _; rw [hR, upd_at, if_neg (by omega), i4 _ (by omega)]; exact h4.2.2.1
        · show R (0 + s) = _; rw [hR, upd_at, if_neg (by omega), i4 _ (by omega)]; exact h4.2.2.2.1 s hs
        · show R (0 + 7 + c) = _; rw [hR, upd_at, if_neg (by omega), i4 _ (by omega)]; exact (h4.2.2.2.2 c hc).1
        · show R (0 + 13 + c) = nI (if anyQ (payP T N y) (tS T) then nO N c + payX y (X c) else nO N c)
          rw [hR, upd_at, if_neg (by omega), hA, show 0 + 13 + c = 13 + c by omega, i3 c hc, if_pos hc]; rfl
        · show R j = _; rw [hR, upd_at, if_neg (by omega), i4 _ (by omega)]
