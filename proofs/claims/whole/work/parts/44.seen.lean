/-! ===== what was seen ===== -/
theorem dist_comm (a b : Nat) : dist a b = dist b a := by unfold dist; split <;> split <;> omega
def sightB (sg : Nat → Int32) (k y : Nat) : Bool := decide (nI (if sg (3 * k + 1) = -1 then 9 - dist y (sg (3 * k)).toNatClampNeg else if dist y (sg (3 * k)).toNatClampNeg ≤ (sg (3 * k + 1)).toNatClampNeg then 1 else 0) = sg (3 * k + 2))
def canP (sg : Nat → Int32) : Nat → Nat → Bool
  | 0, _ => true
  | k + 1, y => canP sg k y && sightB sg k y
def sgOk (sg : Nat → Int32) (K : Nat) : Prop := ∀ k, k < K → (∃ w, w < 24 ∧ sg (3 * k) = nI w) ∧ (sg (3 * k + 1) = -1 ∨ ∃ e, e ≤ 9 ∧ sg (3 * k + 1) = nI e)
theorem m_canBe {sg : Nat → Int32} {K y : Nat} (hK : K ≤ 9) (hy : y < 24) (hs : sgOk sg K) : F_X9_canBe (nI K) sg (nI y) = some (if canP sg K y then 1 else 0) := by
  unfold F_X9_canBe
  refine zl2_for (fun i => if canP sg i y then (1 : Int32) else 0) (fun i => nI i) K (fun i hi k => ?_) (fun k => ?_) K 0 FU rfl (by omega) (by unfold FU; omega)
  · obtain ⟨⟨w, w1, w2⟩, he⟩ := hs i hi
    have hd : dist y w < 24 := dist_lt hy w1
    have e3 : nI (3 * i) + (2 : Int32) = nI (3 * i + 2) := by rw [show (2 : Int32) = nI 2 from rfl, nI_add]
    have key : ∀ due : Nat, due < 2 ^ 30 → sightB sg i y = decide (nI due = sg (3 * i + 2)) → zj0 (bd (nI (i + 1)) (fun v14 => k (0 : Int32) v14)) (fun K13 => if (if canP sg i y then (1 : Int32) else 0) = 0 then (K13) else (if nI due = sg (3 * i + 2) then (bd (nI (i + 1)) (fun v19 => k (1 : Int32) v19)) else (K13))) = k (if canP sg (i + 1) y then 1 else 0) (nI (i + 1)) := fun due _ hdue => by
      simp (disch := omega) only [canP, hdue, rdN, zj0, bdE, nI_1]
      cases canP sg i y
      · simp
      · by_cases h : nI due = sg (3 * i + 2) <;> simp [h]
    rcases he with he | ⟨e, e1, he⟩
    · simp (disch := omega) only [leN, show ¬ K ≤ i by omega, if_false, show (3 : Int32) = nI 3 from rfl, pk_mul, nI_1, e3, rdN, w2, he, v_far, zc1_e, zj1, if_true, show (9 : Int32) = nI 9 from rfl]
      have hdue : sightB sg i y = decide (nI (9 - dist y w) = sg (3 * i + 2)) := by
        unfold sightB; rw [if_pos he, w2, nI_clamp (by omega)]
      have kk := key (9 - dist y w) (by omega) hdue
      by_cases h9 : 9 ≤ dist y w
      · rw [if_pos h9, ← kk, show 9 - dist y w = 0 by omega]; rfl
      · rw [if_neg h9, ← kk, pk_sub (by omega)]
    · have hne : (nI e = (-1 : Int32)) = False := neM1 (by omega)
      simp (disch := omega) only [leN, ltN, show ¬ K ≤ i by omega, if_false, show (3 : Int32) = nI 3 from rfl, pk_mul, nI_1, e3, rdN, w2, he, v_far, zc1_e, zj1, hne]
      by_cases h9 : dist y w ≤ e
      · have hdue : sightB sg i y = decide (nI 1 = sg (3 * i + 2)) := by
          unfold sightB; rw [he, if_neg (fun h => hne.mp h), w2, nI_clamp (by omega), nI_clamp (by omega), if_pos h9]
        have kk := key 1 (by omega) hdue
        rw [if_neg (by omega), ← kk]; rfl
      · have hdue : sightB sg i y = decide (nI 0 = sg (3 * i + 2)) := by
          unfold sightB; rw [he, if_neg (fun h => hne.mp h), w2, nI_clamp (by omega), nI_clamp (by omega), if_neg h9]
        have kk := key 0 (by omega) hdue
        rw [if_pos (by omega), ← kk]; rfl
  · simp (disch := omega) only [leN, Nat.le_refl, if_true]
    cases canP sg K y <;> rfl
theorem m_placesOf {sg : Nat → Int32} {K Y : Nat} (hK : K ≤ 9) (hY : Y ≤ 24) (hs : sgOk sg K) : F_X9_placesOf (nI Y) (nI K) sg = some (nI (bitsN Y (canP sg K))) := by
  unfold F_X9_placesOf
  refine zl2_for (fun i => nI (bitsN i (canP sg K))) (fun i => nI i) Y (fun i hi k => ?_) (fun k => ?_) Y 0 FU rfl (by omega) (by unfold FU; omega)
  · rw [← bitsN_or i (canP sg K)]
    simp (disch := omega) only [leN, show ¬ Y ≤ i by omega, m_canBe hK (show i < 24 by omega) hs, shl1, fa_or, zj0, zj1, zj2, zj3, zj4, zj9, bdE, nI_add, pk_mul, pk_sub, rdN, wrN, zc0_e, zc1_e, zc2_e, zc3_e, zc4_e, zc5_e, nI_1, nI_clamp, bzp, ne10, eq00, ne01, eq11, if_true, if_false, or0, ckZ1, ckZ0, ckZp, L2, L3, L4, L5, L6, L7, L8, L9, L10, L11, L12, L13, L18, L19, L23, L24, L32, L48, L57, L59, L76, L96, L97, L99, L100, L122, L120, L200, L999, L9999]
    cases canP sg K i <;> simp
  · simp (disch := omega) only [leN, Nat.le_refl, if_true]
def nearP (y e : Nat) : Nat → Bool := fun q => decide (dist y q ≤ e)
theorem v_yardsInEar {Y y e : Nat} (hY : Y ≤ 24) (hy : y < 24) (he : e ≤ 9) : F_X0_yardsInEar (nI Y) (nI y) (nI e) = some (nI (bitsN Y (nearP y e))) := by
  unfold F_X0_yardsInEar
  refine zl2_for (fun i => nI (bitsN i (nearP y e))) (fun i => nI i) Y (fun i hi k => ?_) (fun k => ?_) Y 0 FU rfl (by omega) (by unfold FU; omega)
  · rw [← bitsN_or i (nearP y e)]
    simp (disch := omega) only [leN, show ¬ Y ≤ i by omega, v_reaches, shl1, fa_or, zj0, zj1, zj2, zj3, zj4, zj9, bdE, nI_add, pk_mul, pk_sub, rdN, wrN, zc0_e, zc1_e, zc2_e, zc3_e, zc4_e, zc5_e, nI_1, nI_clamp, bzp, ne10, eq00, ne01, eq11, if_true, if_false, or0, ckZ1, ckZ0, ckZp, L2, L3, L4, L5, L6, L7, L8, L9, L10, L11, L12, L13, L18, L19, L23, L24, L32, L48, L57, L59, L76, L96, L97, L99, L100, L122, L120, L200, L999, L9999]
    unfold nearP
    by_cases h : dist y i ≤ e <;> simp [h]
  · simp (disch := omega) only [leN, Nat.le_refl, if_true]
theorem v_yardsPaying {Y y o : Nat} (hY : Y ≤ 24) (hy : y < 24) (ho : o ≤ 9) : F_X0_yardsPaying (nI Y) (nI y) (nI o) = some (nI (bitsN Y (fun q => decide (9 - dist y q = o)))) := by
  unfold F_X0_yardsPaying
  refine zl2_for (fun i => nI (bitsN i (fun q => decide (9 - dist y q = o)))) (fun i => nI i) Y (fun i hi k => ?_) (fun k => ?_) Y 0 FU rfl (by omega) (by unfold FU; omega)
  · rw [← bitsN_or i (fun q => decide (9 - dist y q = o))]
    simp (disch := omega) only [leN, eqN, show ¬ Y ≤ i by omega, v_orangesFor, shl1, fa_or, zj0, zj1, zj2, zj3, zj4, zj9, bdE, nI_add, pk_mul, pk_sub, rdN, wrN, zc0_e, zc1_e, zc2_e, zc3_e, zc4_e, zc5_e, nI_1, nI_clamp, bzp, ne10, eq00, ne01, eq11, if_true, if_false, or0, ckZ1, ckZ0, ckZp, L2, L3, L4, L5, L6, L7, L8, L9, L10, L11, L12, L13, L18, L19, L23, L24, L32, L48, L57, L59, L76, L96, L97, L99, L100, L122, L120, L200, L999, L9999]
    by_cases h : 9 - dist y i = o <;> simp [h]
  · simp (disch := omega) only [leN, Nat.le_refl, if_true]
def cluR (cy cc cp mm : Int32) (sg : Nat → Int32) (T : TA) (K : Nat) : Prop := cy = nI (tY T) ∧ cc = nI K ∧ mm = nI K ∧ K ≤ 9 ∧ sgOk sg K ∧ cp = nI (bitsN (tY T) (canP sg K))
theorem canP_upd {sg sg' : Nat → Int32} {y : Nat} : ∀ K, (∀ j, j < 3 * K → sg' j = sg j) → canP sg' K y = canP sg K y
  | 0, _ => rfl
  | K + 1, h => by
    show (canP sg' K y && sightB sg' K y) = (canP sg K y && sightB sg K y)
    rw [canP_upd K (fun j hj => h j (by omega))]
    unfold sightB
    rw [h (3 * K) (by omega), h (3 * K + 1) (by omega), h (3 * K + 2) (by omega)]
def sgAdd (sg : Nat → Int32) (K : Nat) (a b c : Int32) : Nat → Int32 := upd (upd (upd sg (3 * K) a) (3 * K + 1) b) (3 * K + 2) c
theorem m_see {sg : Nat → Int32} {K : Nat} {a b c : Int32} (hK : K < 9) : F_X9_see (nI K) sg a b c = some (nI (K + 1), nI (K + 1), sgAdd sg K a b c) := by
  unfold F_X9_see sgAdd
  have e3 : nI (3 * K) + (2 : Int32) = nI (3 * K + 2) := by rw [show (2 : Int32) = nI 2 from rfl, nI_add]
  have hne : (nI K = (9 : Int32)) = False := by rw [show (9 : Int32) = nI 9 from rfl, eqN (by omega) (by omega)]; exact eq_false (by omega)
  simp (disch := omega) only [hne, if_false, show (3 : Int32) = nI 3 from rfl, pk_mul, nI_1, e3, wrN, nI_clamp, bdE]
theorem b_see {T : TA} {cy cc cp mm q a b c : Int32} {sg : Nat → Int32} {K : Nat} {Q : Nat → Bool} (h : cluR cy cc cp mm sg T K) (hq : cp &&& q = nI (bitsN (tY T) (fun y => canP sg K y && Q y))) (ha : ∃ w, w < 24 ∧ a = nI w) (hb : b = -1 ∨ ∃ e, e ≤ 9 ∧ b = nI e) (hQ : ∀ y, y < tY T → Q y = sightB (sgAdd sg K a b c) K y) :
    ∃ r cc' cp' mm' sg' K', F_X0_add cc cp q = some (r, cc', cp') ∧ F_X9_see mm sg a b c = some (r, mm', sg') ∧ cluR cy cc' cp' mm' sg' T K' := by
  have h0 := h
  obtain ⟨c1, c2, c3, c4, c5, c6⟩ := h
  by_cases hK : K < 9
  · have fr : ∀ j, j < 3 * K → sgAdd sg K a b c j = sg j := fun j hj => by
      unfold sgAdd; rw [upd_at, if_neg (by omega), upd_at, if_neg (by omega), upd_at, if_neg (by omega)]
    refine ⟨nI (K + 1), nI (K + 1), cp &&& q, nI (K + 1), sgAdd sg K a b c, K + 1, ?_, ?_, c1, rfl, rfl, by omega, fun k hk => ?_, ?_⟩
    · unfold F_X0_add
      rw [c2]
      simp (disch := omega) only [show (9 : Int32) = nI 9 from rfl, ltN, hK, if_true, bdE, nI_1]
    · rw [c3]; exact m_see hK
    · by_cases e : k = K
      · subst e
        refine ⟨?_, ?_⟩
        · rw [show sgAdd sg k a b c (3 * k) = a by unfold sgAdd; rw [upd_at, if_neg (by omega), upd_at, if_neg (by omega), upd_at, if_pos rfl]]; exact ha
        · rw [show sgAdd sg k a b c (3 * k + 1) = b by unfold sgAdd; rw [upd_at, if_neg (by omega), upd_at, if_pos rfl]]; exact hb
      · rw [fr _ (by omega), fr _ (by omega)]; exact c5 k (by omega)
    · rw [hq]
      congr 1
      refine bitsN_congr (fun y hy => ?_)
      show (canP sg K y && Q y) = (canP (sgAdd sg K a b c) K y && sightB (sgAdd sg K a b c) K y)
      rw [canP_upd K fr, hQ y hy]
  · have e : K = 9 := by omega
    subst e
    refine ⟨-5, cc, cp, mm, sg, 9, ?_, ?_, h0⟩
    · unfold F_X0_add; rw [c2, if_neg (by decide)]
    · unfold F_X9_see; rw [c3, if_pos (by decide)]
theorem bitsN_and (Y : Nat) (p q : Nat → Bool) : nI (bitsN Y p) &&& nI (bitsN Y q) = nI (bitsN Y (fun y => p y && q y)) := by
  rw [fa_and]
  congr 1
  apply Nat.eq_of_testBit_eq
  intro i
  rw [Nat.testBit_and, bitsN_test, bitsN_test, bitsN_test]
  cases decide (i < Y) <;> simp
theorem sgAdd0 {sg : Nat → Int32} {K : Nat} {a b c : Int32} : sgAdd sg K a b c (3 * K) = a ∧ sgAdd sg K a b c (3 * K + 1) = b ∧ sgAdd sg K a b c (3 * K + 2) = c := by
  unfold sgAdd
  refine ⟨?_, ?_, ?_⟩
  · rw [upd_at, if_neg (by omega), upd_at, if_neg (by omega), upd_at, if_pos rfl]
  · rw [upd_at, if_neg (by omega), upd_at, if_pos rfl]
  · rw [upd_at, if_pos rfl]
theorem b_seen {T : TA} {yards my cy cc cp mm p1 p2 p3 : Int32} {sg : Nat → Int32} {K : Nat} (hT : okT T) (e1 : yards = nI (tY T)) (e2 : my = nI (tY T)) (h : cluR cy cc cp mm sg T K) :
    ∃ r cc' cp' mm' sg' K', F_X8_seen yards cy cc cp p1 p2 p3 = some (r, cc', cp') ∧ F_X9_seen my mm sg p1 p2 p3 = some (r, mm', sg') ∧ cluR cy cc' cp' mm' sg' T K' := by
  have a2 := hT.2.1
  have hsz : tY T < 2 ^ 30 := by omega
  have h0 := h
  obtain ⟨c1, c2, c3, c4, c5, c6⟩ := h
  unfold F_X8_seen F_X9_seen
  rw [e1, e2]
  rcases ixC p1 hsz with ⟨y, hy, rfl⟩ | ho
  · rw [(hasYard_ix hsz).1 y hy, (isYard_ix hsz).1 y hy, v_isWithin p2, v_isWithin p3, W0', W9, W1, v_in p2, v_in p3]
    simp only [zc1_e, ne10, if_false]
    by_cases hc : (0 : Int32) ≤ p2 ∧ p2 ≤ (9 : Int32)
    · obtain ⟨e, -, g2, rfl⟩ := inNat (a := 0) (b := 9) (by omega) hc (by omega)
      simp only [if_pos hc, ne10, if_false]
      by_cases hd : (0 : Int32) ≤ p3 ∧ p3 ≤ (1 : Int32)
      · obtain ⟨w, -, w2, rfl⟩ := inNat (a := 0) (b := 1) (by omega) hd (by omega)
        simp only [if_pos hd, ne10, if_false]
        rw [c1, v_yardsInEar (by omega) (by omega) g2, zc1_e]
        simp only [zj1]
        have hsight : ∀ c q, sightB (sgAdd sg K (nI y) (nI e) c) K q = decide (nI (if dist q y ≤ e then 1 else 0) = c) := fun c q => by
          unfold sightB
          obtain ⟨s1, s2, s3⟩ := sgAdd0 (sg := sg) (K := K) (a := nI y) (b := nI e) (c := c)
          rw [s1, s2, s3, if_neg (fun h => (neM1 (a := e) (by omega)).mp h), nI_clamp (by omega), nI_clamp (by omega)]
        rcases (show w = 0 ∨ w = 1 by omega) with rfl | rfl
        · rw [if_neg (by decide)]
          obtain ⟨r, cc', cp', mm', sg', K', k1, k2, k3⟩ := b_see (q := nI (bitsN (tY T) (nearP y e)) ^^^ (-1 : Int32)) (a := nI y) (b := nI e) (c := nI 0) (Q := fun q => !nearP y e q) h0 (by rw [c6, andNotB]) ⟨y, by omega, rfl⟩ (Or.inr ⟨e, g2, rfl⟩) (fun q hq => by
            rw [hsight, dist_comm q y]
            unfold nearP
            by_cases h : dist y q ≤ e
            · simp [h]; decide
            · simp [h])
          rw [k1, k2]
          exact ⟨r, cc', cp', mm', sg', K', rfl, rfl, c1 ▸ k3⟩
        · rw [if_pos (by decide)]
          obtain ⟨r, cc', cp', mm', sg', K', k1, k2, k3⟩ := b_see (q := nI (bitsN (tY T) (nearP y e))) (a := nI y) (b := nI e) (c := nI 1) (Q := nearP y e) h0 (by rw [c6, bitsN_and]) ⟨y, by omega, rfl⟩ (Or.inr ⟨e, g2, rfl⟩) (fun q hq => by
            rw [hsight, dist_comm q y]
            unfold nearP
            by_cases h : dist y q ≤ e
            · simp [h]
            · simp [h]; decide)
          rw [k1, k2]
          exact ⟨r, cc', cp', mm', sg', K', rfl, rfl, c1 ▸ k3⟩
      · simp only [if_neg hd, eq00, if_true]
        exact ⟨_, _, _, _, _, K, rfl, rfl, h0⟩
    · simp only [if_neg hc, eq00, if_true]
      exact ⟨_, _, _, _, _, K, rfl, rfl, h0⟩
  · rw [(hasYard_ix hsz).2 p1 ho, (isYard_ix hsz).2 p1 ho]
    exact ⟨_, _, _, _, _, K, rfl, rfl, h0⟩
theorem b_paid {T : TA} {yards my cy cc cp mm p1 p2 : Int32} {sg : Nat → Int32} {K : Nat} (hT : okT T) (e1 : yards = nI (tY T)) (e2 : my = nI (tY T)) (h : cluR cy cc cp mm sg T K) :
    ∃ r cc' cp' mm' sg' K', F_X8_paid yards cy cc cp p1 p2 = some (r, cc', cp') ∧ F_X9_paid my mm sg p1 p2 = some (r, mm', sg') ∧ cluR cy cc' cp' mm' sg' T K' := by
  have a2 := hT.2.1
  have hsz : tY T < 2 ^ 30 := by omega
  have h0 := h
  obtain ⟨c1, c2, c3, c4, c5, c6⟩ := h
  unfold F_X8_paid F_X9_paid
  rw [e1, e2]
  rcases ixC p1 hsz with ⟨y, hy, rfl⟩ | ho
  · rw [(hasYard_ix hsz).1 y hy, (isYard_ix hsz).1 y hy, v_isWithin p2, W0', W9, v_in p2]
    simp only [zc1_e, ne10, if_false]
    by_cases hc : (0 : Int32) ≤ p2 ∧ p2 ≤ (9 : Int32)
    · obtain ⟨o, -, g2, rfl⟩ := inNat (a := 0) (b := 9) (by omega) hc (by omega)
      simp only [if_pos hc, ne10, if_false]
      rw [c1, v_yardsPaying (by omega) (by omega) g2, zc1_e]
      obtain ⟨r, cc', cp', mm', sg', K', k1, k2, k3⟩ := b_see (q := nI (bitsN (tY T) (fun q => decide (9 - dist y q = o)))) (a := nI y) (b := -1) (c := nI o) (Q := fun q => decide (9 - dist y q = o)) h0 (by rw [c6, bitsN_and]) ⟨y, by omega, rfl⟩ (Or.inl rfl) (fun q hq => by
        unfold sightB
        obtain ⟨s1, s2, s3⟩ := sgAdd0 (sg := sg) (K := K) (a := nI y) (b := -1) (c := nI o)
        rw [s1, s2, s3, if_pos rfl, nI_clamp (by omega), dist_comm q y]
        exact decide_eq_decide.mpr (nI_eq (by omega) (by omega)).symm)
      rw [k1, k2]
      exact ⟨r, cc', cp', mm', sg', K', rfl, rfl, c1 ▸ k3⟩
    · simp only [if_neg hc, eq00, if_true]
      exact ⟨_, _, _, _, _, K, rfl, rfl, h0⟩
  · rw [(hasYard_ix hsz).2 p1 ho, (isYard_ix hsz).2 p1 ho]
    exact ⟨_, _, _, _, _, K, rfl, rfl, h0⟩
theorem bitsN_full (n : Nat) : bitsN n (fun _ => true) = 2 ^ n - 1 := by
  induction n with
  | zero => rfl
  | succ n ih =>
    have := Nat.two_pow_pos n
    simp only [bitsN, ih, if_true, Nat.pow_succ]; omega
theorem v_beginC {Y : Nat} {a b c : Int32} (hY : Y ≤ 24) : F_X0_begin a b c (nI Y) = some (nI Y, 0, nI (bitsN Y (fun _ => true))) := by
  unfold F_X0_begin
  have := Nat.two_pow_pos Y
  rw [bdE, shl1 (by omega), subN1 _ (by omega), bitsN_full]
theorem cluR_begin {T : TA} {sg : Nat → Int32} : cluR (nI (tY T)) 0 (nI (bitsN (tY T) (fun _ => true))) 0 sg T 0 := ⟨rfl, rfl, rfl, by omega, fun k hk => by omega, rfl⟩
theorem b_forget {T : TA} {yards cy cc cp mm : Int32} {sg : Nat → Int32} {K : Nat} (hT : okT T) (e1 : yards = nI (tY T)) (h : cluR cy cc cp mm sg T K) :
    ∃ r cy' cc' cp' mm', F_X8_forget yards cy cc cp = some (r, cy', cc', cp') ∧ F_X9_forget mm = some (r, mm') ∧ cluR cy' cc' cp' mm' sg T 0 := by
  have a2 := hT.2.1
  unfold F_X8_forget F_X9_forget
  rw [e1, v_beginC (by omega), zc3_e]
  exact ⟨_, _, _, _, _, rfl, by rw [h.2.2.1, h.2.1], cluR_begin⟩
theorem b_where {T : TA} {my cy cc cp mm : Int32} {sg : Nat → Int32} {K : Nat} (hT : okT T) (e2 : my = nI (tY T)) (h : cluR cy cc cp mm sg T K) :
    ∃ r, F_X8_where cp = some r ∧ F_X9_where my mm sg = some r := by
  have a2 := hT.2.1
  obtain ⟨c1, c2, c3, c4, c5, c6⟩ := h
  unfold F_X8_where F_X9_where
  rw [e2, c3, m_placesOf c4 (by omega) c5, c6]
  exact ⟨_, rfl, rfl⟩
/-! next -/
def argm (w : Nat → Nat) : Nat → Nat × Nat
  | 0 => (0, w 0)
  | n + 1 => if w (n + 1) < (argm w n).2 then (n + 1, w (n + 1)) else argm w n
def fA (w : Nat → Nat) (i : Nat) : Int32 := if i = 0 then -1 else nI (argm w (i - 1)).1
def fB (w : Nat → Nat) (L i : Nat) : Nat := if i = 0 then L else (argm w (i - 1)).2
theorem argm_lt {w : Nat → Nat} {L : Nat} (hw : ∀ y, w y < L) (n : Nat) : (argm w n).2 < L := by
  induction n with
  | zero => exact hw 0
  | succ n ih =>
    simp only [argm]
    split
    · exact hw (n + 1)
    · exact ih
theorem fAB {w : Nat → Nat} {L : Nat} (hw : ∀ y, w y < L) (i : Nat) : fB w L i ≤ L ∧ fA w (i + 1) = (if fB w L i ≤ w i then fA w i else nI i) ∧ fB w L (i + 1) = (if fB w L i ≤ w i then fB w L i else w i) := by
  cases i with
  | zero =>
    have := hw 0
    refine ⟨Nat.le_refl _, ?_, ?_⟩
    · show nI 0 = if L ≤ w 0 then _ else nI 0
      rw [if_neg (by omega)]
    · show w 0 = if L ≤ w 0 then _ else w 0
      rw [if_neg (by omega)]
  | succ n =>
    have := argm_lt hw n
    refine ⟨by show (argm w n).2 ≤ L; omega, ?_, ?_⟩
    · show nI (argm w (n + 1)).1 = if (argm w n).2 ≤ w (n + 1) then nI (argm w n).1 else nI (n + 1)
      simp only [argm]
      by_cases h : (argm w n).2 ≤ w (n + 1)
      · rw [if_pos h, if_neg (by omega)]
      · rw [if_neg h, if_pos (by omega)]
    · show (argm w (n + 1)).2 = if (argm w n).2 ≤ w (n + 1) then (argm w n).2 else w (n + 1)
      simp only [argm]
      by_cases h : (argm w n).2 ≤ w (n + 1)
      · rw [if_pos h, if_neg (by omega)]
      · rw [if_neg h, if_pos (by omega)]
theorem m_near {Y y e : Nat} {my : Int32} {P : Nat → Bool} (hY : Y ≤ 24) (hmy : my = nI Y) (hy : y < 24) (he : e ≤ 9) {β : Type} (K : Int32 → Option β) :
    zl2 (fun x12 x13 ag14 => if my ≤ x13 then (K x12) else (zc1 (F_X9_has (nI (bitsN Y P)) x13) (fun v29 => zj1 (fun y31 => bd (x12 + y31) (fun v33 => bd (x13 + (1 : Int32)) (fun v34 => ag14 v33 v34))) (fun K32 => if v29 = 0 then (K32 (0 : Int32)) else (zc1 (F_X9_far (nI y) x13) (fun v36 => if nI e < v36 then (K32 (0 : Int32)) else (K32 (1 : Int32)))))))) FU (0 : Int32) (0 : Int32) = K (nI (cntB (fun q => P q && nearP y e q) Y)) := by
  have hb : bitsN Y P < 2 ^ 30 := bitsN_31 (by omega)
  refine zl2_for (fun i => nI (cntB (fun q => P q && nearP y e q) i)) (fun i => nI i) Y (fun i hi k => ?_) (fun k => ?_) Y 0 FU rfl (by omega) (by unfold FU; omega)
  · have ht : (bitsN Y P).testBit i = P i := by rw [bitsN_test]; simp [hi]
    have hd : dist y i < 24 := dist_lt hy (by omega)
    have z3 : ∀ a, nI a + (0 : Int32) = nI a := fun a => by rw [l0, nI_add, Nat.add_zero]
    simp (disch := omega) only [hmy, leN, ltN, show ¬ Y ≤ i by omega, v_has, ht, v_far, cntB, zj1, bdE, zc1_e, if_false, nI_1]
    unfold nearP
    by_cases hPi : P i = true
    case neg => simp [hPi, z3]
    case pos =>
      by_cases h : dist y i ≤ e
      · simp [hPi, h, show ¬ e < dist y i by omega, nI_1]
      · simp [hPi, h, show e < dist y i by omega, z3]
  · simp (disch := omega) only [hmy, leN, Nat.le_refl, if_true]
theorem next_a {Y tot pos : Nat} {w nr : Nat → Nat} {F G : Int32 → Option Int32} {S : Nat → Int32} (hY : Y ≤ 24) (hz : (nI pos = (0 : Int32)) = False) (ht : tot ≤ 24) (hnl : ∀ y, nr y ≤ tot) (hwl : ∀ y, w y < 25) (hw : ∀ y, (if nr y < tot - nr y then tot - nr y else nr y) = w y) (k1 : ∀ y, y < 24 → F (nI y) = some (S y)) (k2 : ∀ y, G (nI pos &&& S y) = some (nI (nr y))) (k3 : G (nI pos) = some (nI tot)) :
    zl3 (fun x1 x2 x3 ag4 => if nI Y ≤ x3 then (some x1) else (if nI pos = 0 then (some x1) else (zc1 (F x3) (fun v7 => bd (nI pos &&& v7) (fun v9 => zc1 (G v9) (fun v10 => zc1 (G (nI pos)) (fun v12 => bd (if v10 < (v12 - v10) then (v12 - v10) else v10) (fun v14 => if x2 ≤ v14 then (bd (x3 + (1 : Int32)) (fun v16 => ag4 x1 x2 v16)) else (bd (x3 + (1 : Int32)) (fun v17 => ag4 x3 v14 v17)))))))))) FU (-1 : Int32) (25 : Int32) (0 : Int32) = some (fA w Y) := by
  refine zl3_for (fun i => fA w i) (fun i => nI (fB w 25 i)) (fun i => nI i) Y (fun i hi k => ?_) (fun k => ?_) Y 0 FU (Nat.sub_zero _).symm (by omega) (by unfold FU; omega)
  · obtain ⟨f1, f2, f3⟩ := fAB hwl i
    have := hnl i
    have := hwl i
    have hmx : (if nI (nr i) < nI tot - nI (nr i) then nI tot - nI (nr i) else nI (nr i)) = nI (w i) := by
      rw [pk_sub (hnl i), ← hw i]
      simp (disch := omega) only [ltN]
      split <;> rfl
    rw [f2, f3]
    simp (disch := omega) only [leN, show ¬ Y ≤ i by omega, hz, if_false, k1, zc1_e, bdE, k2, k3, hmx, nI_1]
    split <;> rfl
  · simp (disch := omega) only [leN, Nat.le_refl, if_true]
theorem next_b {Y tot e : Nat} {my : Int32} {P : Nat → Bool} {w nr : Nat → Nat} (hY : Y ≤ 24) (hmy : my = nI Y) (he : e ≤ 9) (hz : (nI (bitsN Y P) = (0 : Int32)) = False) (ht : tot ≤ 24) (hnl : ∀ y, nr y ≤ tot) (hwl : ∀ y, w y < 99) (hw : ∀ y, (if nr y < tot - nr y then tot - nr y else nr y) = w y) (hn : ∀ y, cntB (fun q => P q && nearP y e q) Y = nr y) (k4 : F_X9_bits (nI (bitsN Y P)) = some (nI tot)) :
    zl3 (fun x6 x7 x8 ag9 => if my ≤ x8 then (some x6) else (if nI (bitsN Y P) = 0 then (some x6) else (zl2 (fun x12 x13 ag14 => if my ≤ x13 then (zc1 (F_X9_bits (nI (bitsN Y P))) (fun v16 => zj1 (fun y18 => zj1 (fun y20 => if x7 ≤ y18 then (bd (x8 + (1 : Int32)) (fun v23 => ag9 y20 x7 v23)) else (bd (x8 + (1 : Int32)) (fun v24 => ag9 y20 y18 v24))) (fun K21 => if x7 ≤ y18 then (K21 x6) else (K21 x8))) (fun K19 => if x12 ≤ (v16 - x12) then (zc1 (F_X9_bits (nI (bitsN Y P))) (fun v27 => K19 (v27 - x12))) else (K19 x12)))) else (zc1 (F_X9_has (nI (bitsN Y P)) x13) (fun v29 => zj1 (fun y31 => bd (x12 + y31) (fun v33 => bd (x13 + (1 : Int32)) (fun v34 => ag14 v33 v34))) (fun K32 => if v29 = 0 then (K32 (0 : Int32)) else (zc1 (F_X9_far x8 x13) (fun v36 => if nI e < v36 then (K32 (0 : Int32)) else (K32 (1 : Int32)))))))) FU (0 : Int32) (0 : Int32)))) FU (-1 : Int32) (99 : Int32) (0 : Int32) = some (fA w Y) := by
  refine zl3_for (fun i => fA w i) (fun i => nI (fB w 99 i)) (fun i => nI i) Y (fun i hi k => ?_) (fun k => ?_) Y 0 FU (Nat.sub_zero _).symm (by omega) (by unfold FU; omega)
  · obtain ⟨f1, f2, f3⟩ := fAB hwl i
    have hl := hnl i
    have hwi := hwl i
    rw [f2, f3, if_neg (by rw [hmy]; exact nI_ge hi (by omega)), if_neg (fun h => hz.mp h)]
    rw [m_near hY hmy (show i < 24 by omega) he]
    rw [hn i, k4, zc1_e]
    have hsub : nI tot - nI (nr i) = nI (tot - nr i) := pk_sub hl
    simp only [zj1, hsub, zc1_e]
    have hlw : (if nI (nr i) ≤ nI (tot - nr i) then nI (tot - nr i) else nI (nr i)) = nI (w i) := by
      rw [← hw i]
      simp (disch := omega) only [leN]
      by_cases q1 : nr i < tot - nr i
      · rw [if_pos (by omega), if_pos q1]
      · rw [if_neg q1]
        by_cases q2 : nr i ≤ tot - nr i
        · rw [if_pos q2, show tot - nr i = nr i by omega]
        · rw [if_neg q2]
    have fin : ∀ x : Int32, x = nI (w i) → (if nI (fB w 99 i) ≤ x then (if nI (fB w 99 i) ≤ x then bd (nI i + (1 : Int32)) (fun v23 => k (fA w i) (nI (fB w 99 i)) v23) else bd (nI i + (1 : Int32)) (fun v24 => k (fA w i) x v24)) else (if nI (fB w 99 i) ≤ x then bd (nI i + (1 : Int32)) (fun v23 => k (nI i) (nI (fB w 99 i)) v23) else bd (nI i + (1 : Int32)) (fun v24 => k (nI i) x v24))) = k (if fB w 99 i ≤ w i then fA w i else nI i) (nI (if fB w 99 i ≤ w i then fB w 99 i else w i)) (nI (i + 1)) := fun x hx => by
      subst hx
      simp (disch := omega) only [leN, bdE, nI_1]
      by_cases q1 : fB w 99 i ≤ w i
      · simp only [q1, if_true]
      · simp only [q1, if_false]
    by_cases q : nI (nr i) ≤ nI (tot - nr i)
    · rw [if_pos q]
      rw [if_pos q] at hlw
      exact fin _ hlw
    · rw [if_neg q]
      rw [if_neg q] at hlw
      exact fin _ hlw
  · simp (disch := omega) only [hmy, leN, Nat.le_refl, if_true]
theorem zl3_first {A B C β : Type} {body : A → B → C → (A → B → C → Option β) → Option β} {a : A} {b : B} {c : C} {R : Option β} (h : ∀ k, body a b c k = R) : zl3 body FU a b c = R := zl3_now h
theorem b_next {T : TA} {my cy cc cp mm p : Int32} {sg : Nat → Int32} {K : Nat} (hT : okT T) (e2 : my = nI (tY T)) (h : cluR cy cc cp mm sg T K) :
    ∃ r, F_X8_next cy cp p = some r ∧ F_X9_next my mm sg p = some r := by
  have a2 : tY T ≤ 24 := hT.2.1
  obtain ⟨c1, c2, c3, c4, c5, c6⟩ := h
  unfold F_X8_next F_X9_next
  rw [v_isWithin, W0', W9, v_in, zc1_e, zc1_e]
  by_cases hc : (0 : Int32) ≤ p ∧ p ≤ (9 : Int32)
  · obtain ⟨e, -, g2, rfl⟩ := inNat (a := 0) (b := 9) (by omega) hc (by omega)
    have hpl : F_X9_placesOf my mm sg = some (nI (bitsN (tY T) (canP sg K))) := by rw [e2, c3]; exact m_placesOf c4 a2 c5
    rw [if_pos hc, if_neg (by decide), hpl, zc1_e, if_neg (by decide)]
    unfold F_X0_surestYard
    rw [c1, c6]
    have hb : bitsN (tY T) (canP sg K) < 2 ^ 30 := bitsN_31 (by omega)
    generalize canP sg K = P at hb ⊢
    have ht24 : cntB P (tY T) ≤ 24 := Nat.le_trans (cntB_le _ _) a2
    have hnl : ∀ y, cntB (fun q => P q && nearP y e q) (tY T) ≤ cntB P (tY T) := fun y => cntB_mono (fun i hi => by simp at hi; exact hi.1) _
    by_cases hz : bitsN (tY T) P = 0
    · refine ⟨-1, ?_, ?_⟩
      · rw [hz]
        rw [zl3_first (R := some (-1)) (fun k => by rw [if_pos (show nI 0 = (0 : Int32) from rfl), ite_self])]
        rfl
      · rw [hz]
        exact zl3_first (R := some (-1)) (fun k => by rw [if_pos (show nI 0 = (0 : Int32) from rfl), ite_self])
    · have hz' : (nI (bitsN (tY T) P) = (0 : Int32)) = False := by rw [eq0N (by omega)]; exact eq_false hz
      have hwl : ∀ y, (fun y => if cntB (fun q => P q && nearP y e q) (tY T) < cntB P (tY T) - cntB (fun q => P q && nearP y e q) (tY T) then cntB P (tY T) - cntB (fun q => P q && nearP y e q) (tY T) else cntB (fun q => P q && nearP y e q) (tY T)) y < 25 := fun y => by have := hnl y; show (if _ then _ else _) < 25; split <;> omega
      refine ⟨_, ?_, next_b a2 e2 g2 hz' ht24 hnl (fun y => Nat.lt_trans (hwl y) (by omega)) (fun y => rfl) (fun y => rfl) (v_bitsE a2)⟩
      rw [next_a (S := fun y => nI (bitsN (tY T) (nearP y e))) (F := fun x => F_X0_yardsInEar (nI (tY T)) x (nI e)) a2 hz' ht24 hnl hwl (fun y => rfl) (fun y hy => v_yardsInEar a2 hy g2) (fun y => by show F_J6_bitCount_0f7a4 (nI (bitsN (tY T) P) &&& nI (bitsN (tY T) (nearP y e))) = _; rw [bitsN_and, v_bc a2]) (v_bc a2)]
      rfl
  · rw [if_neg hc]
    exact ⟨_, rfl, rfl⟩
/-! ===== the text: write ===== -/
theorem byteLow (x : Int32) : x.toInt8.toInt32 &&& 255 = x &&& 255 := by
  apply Int32.toBitVec_inj.mp
  rw [Int32.toBitVec_and, Int32.toBitVec_and, Int8.toBitVec_toInt32, Int32.toBitVec_toInt8]
  apply BitVec.eq_of_getLsbD_eq
  intro i hi
  rw [BitVec.getLsbD_and, BitVec.getLsbD_and]
  have hm : ∀ i < 32, 8 ≤ i → (255 : Int32).toBitVec.getLsbD i = false := by decide
  rcases Nat.lt_or_ge i 8 with z | z
  · rw [BitVec.getLsbD_signExtend, BitVec.getLsbD_signExtend, if_pos z, if_pos hi]
    simp only [z, hi, decide_true, Bool.true_and]
  · rw [hm i hi z]; simp
theorem low255 (y : Int32) : ∃ b, b < 256 ∧ y &&& 255 = nI b := by
  have e : y = nI y.toBitVec.toNat := by
    apply Int32.toBitVec_inj.1
    show y.toBitVec = BitVec.ofNat 32 y.toBitVec.toNat
    simp
  refine ⟨y.toBitVec.toNat &&& 255, Nat.lt_of_le_of_lt Nat.and_le_right (by omega), ?_⟩
  rw [show (255 : Int32) = nI 255 from rfl]
  exact (congrArg (· &&& nI 255) e).trans (fa_and _ _)
theorem lowL (x : Int64) : (x &&& 255).toInt32 = x.toInt32 &&& 255 := by
  apply Int32.toBitVec_inj.mp
  rw [Int32.toBitVec_and]
  show (x.toBitVec &&& (255 : Int64).toBitVec).signExtend 32 = x.toBitVec.signExtend 32 &&& (255 : Int32).toBitVec
  apply BitVec.eq_of_getLsbD_eq
  intro i hi
  have hm : ∀ i < 32, (255 : Int64).toBitVec.getLsbD i = (255 : Int32).toBitVec.getLsbD i := by decide
  rw [BitVec.getLsbD_and, BitVec.getLsbD_signExtend, BitVec.getLsbD_signExtend, if_pos (by omega), if_pos (by omega), BitVec.getLsbD_and, hm i hi]
  simp [hi]
def tR (len : Int32) (sg : Nat → Int32) (mlen : Int32) (mt : Nat → Int32) (L : Nat) : Prop := len = nI L ∧ mlen = nI L ∧ L ≤ 200 ∧ ∀ k, k < L → mt k = sg k &&& 255 ∧ ∃ b, b < 256 ∧ mt k = nI b
abbrev wX (p : Int64) (i : Nat) : Int64 := p >>> (((8 : Int32) * nI i).toInt64 &&& 63)
def sgW (p : Int64) (L : Nat) (f : Nat → Int32) : Nat → Nat → Int32
  | 0 => f
  | i + 1 => upd (sgW p L f i) (L + i) (vp_nar .byte ((wX p i).toInt32.toInt8.toInt32))
def mtW (p : Int64) (L : Nat) (f : Nat → Int32) : Nat → Nat → Int32
  | 0 => f
  | i + 1 => upd (mtW p L f i) (L + i) ((wX p i &&& 255).toInt32)
theorem tR_W {p : Int64} {sg mt : Nat → Int32} {L : Nat} (h : ∀ k, k < L → mt k = sg k &&& 255 ∧ ∃ b, b < 256 ∧ mt k = nI b) : ∀ n k, k < L + n → mtW p L mt n k = sgW p L sg n k &&& 255 ∧ ∃ b, b < 256 ∧ mtW p L mt n k = nI b
  | 0, k, hk => h k hk
  | n + 1, k, hk => by
    show upd (mtW p L mt n) (L + n) ((wX p n &&& 255).toInt32) k = upd (sgW p L sg n) (L + n) (vp_nar .byte ((wX p n).toInt32.toInt8.toInt32)) k &&& 255 ∧ ∃ b, b < 256 ∧ upd (mtW p L mt n) (L + n) ((wX p n &&& 255).toInt32) k = nI b
    rw [upd_at, upd_at]
    by_cases e : k = L + n
    · rw [if_pos e, if_pos e, pk_vb, byteLow, lowL]
      exact ⟨rfl, low255 _⟩
    · rw [if_neg e, if_neg e]
      exact tR_W h n k (by omega)
theorem b_write {len mlen p2 : Int32} {p1 : Int64} {sg mt : Nat → Int32} {L : Nat} (h : tR len sg mlen mt L) :
    ∃ r len' sg' mlen' mt' L', F_X8_write len sg p1 p2 = some (r, len', sg') ∧ F_X9_write mlen mt p1 p2 = some (r, mlen', mt') ∧ tR len' sg' mlen' mt' L' := by
  have h0 := h
  obtain ⟨t1, t2, t3, t4⟩ := h
  unfold F_X8_write F_X9_write
  rw [v_isWithin, W1, W8, v_in, zc1_e, zc1_e]
  by_cases hc : (1 : Int32) ≤ p2 ∧ p2 ≤ (8 : Int32)
  · obtain ⟨n, n1, n2, rfl⟩ := inNat (a := 1) (b := 8) (by omega) hc (by omega)
    rw [if_pos hc, if_neg (by decide), if_neg (by decide)]
    unfold F_X6_hasRoomFor
    rw [t1, t2]
    simp (disch := omega) only [show (200 : Int32) = nI 200 from rfl, pk_sub, ltN, nI_add, leN]
    by_cases hl : L + n ≤ 200
    · rw [if_neg (by omega), zc1_e, if_neg (by decide), if_pos hl]
      have k1 : F_X6_add (nI L) sg p1 (nI n) = some (nI (L + n), sgW p1 L sg n) := by
        unfold F_X6_add
        refine zl3_for (fun i => nI i) (fun i => nI (L + i)) (fun i => sgW p1 L sg i) n (fun i hi k => ?_) (fun k => ?_) n 0 FU rfl (by omega) (by unfold FU; omega)
        · simp (disch := omega) only [leN, show ¬ n ≤ i by omega, if_false, show (200 : Int32) = nI 200 from rfl, show ¬ 200 ≤ L + i by omega, bdE, wrN, nI_clamp, nI_1]
          rfl
        · simp (disch := omega) only [leN, Nat.le_refl, if_true]
      rw [k1, zc2_e]
      refine ⟨nI (L + n), nI (L + n), sgW p1 L sg n, nI (L + n), mtW p1 L mt n, L + n, rfl, ?_, rfl, rfl, hl, tR_W t4 n⟩
      refine zl3_for (fun i => nI i) (fun i => nI (L + i)) (fun i => mtW p1 L mt i) n (fun i hi k => ?_) (fun k => ?_) n 0 FU rfl (by omega) (by unfold FU; omega)
      · simp (disch := omega) only [leN, show ¬ n ≤ i by omega, if_false, bdE, wrN, nI_clamp, nI_1]
        rfl
      · simp (disch := omega) only [leN, Nat.le_refl, if_true]
    · rw [if_pos (by omega), zc1_e, if_pos rfl, if_neg hl]
      exact ⟨_, _, _, _, _, L, rfl, rfl, ⟨rfl, rfl, t3, t4⟩⟩
  · rw [if_neg hc]
    exact ⟨_, _, _, _, _, L, rfl, rfl, h0⟩
theorem b_erase {len mlen : Int32} {sg mt : Nat → Int32} {L : Nat} (h : tR len sg mlen mt L) :
    ∃ r len' mlen', F_X8_erase len = some (r, len') ∧ F_X9_erase mlen = some (r, mlen') ∧ tR len' sg mlen' mt 0 := by
  refine ⟨nI L, 0, 0, ?_, ?_, rfl, rfl, by omega, fun k hk => by omega⟩
  · unfold F_X8_erase; rw [h.1]
  · unfold F_X9_erase; rw [h.2.1]
