/-! ===== child, as, count ===== -/
theorem b_child {T : TA} {N : NA} {yards seeps children hours filled tl : Int32} {tides seepYard seepSize growth level kind childYard pace ear size yard oranges : Nat → Int32} {p1 p2 : Int32} (hT : okT T) (hN : okN T N 9999) (h1 : rT yards seeps children tides seepYard seepSize growth level kind childYard pace ear T) (h2 : rN hours filled tl size yard oranges T N)
    {my ms mc : Int32} {row mt mseeps mk mp me : Nat → Int32} (h3 : mT my ms mc row mt mseeps mk mp me T) (h4 : mN 0 row T N) : ∃ r, F_X8_child seeps children seepYard kind pace ear hours filled tl yard oranges p1 p2 = some r ∧ F_X9_child my ms mc row mseeps mk mp me p1 p2 = some r := by
  have a4 : tC T ≤ 5 := hT.2.2.2.1
  have hsz : tC T < 2 ^ 30 := by omega
  unfold F_X8_child F_X9_child
  rw [show children = nI (tC T) from h1.2.2.1, show mc = nI (tC T) from h3.2.2.1]
  rcases ixC p1 hsz with ⟨c, hc, rfl⟩ | ho
  · rw [(hasChild_ix hsz).1 c hc, (isChild_ix hsz).1 c hc]
    obtain ⟨x, x1, x2⟩ := v_toldBy hT hN (by omega) hc h1 h2
    obtain ⟨z, z1, z2⟩ := m_tells hT hN (by omega) hc h3 h4
    have hxz := tells_eq x2 z2
    have e1 := v_earOf (N := N) hT hc h2.1 (by have := hN.1; omega) (h1.2.2.2.2.2 c hc).1 (h1.2.2.2.2.2 c hc).2.2.2
    have e2 : F_X9_earOf row mk me (0 : Int32) (nI c) = _ := m_earOf (N := N) (base := 0) hT (by omega) hc h4.1 (by have := hN.1; omega) (h3.2.2.2.2.2 c hc).1 (h3.2.2.2.2.2 c hc).2.2.2
    obtain ⟨q1, q2, q3, q4⟩ := h1.2.2.2.2.2 c hc
    obtain ⟨w1, w2, w3, w4⟩ := h3.2.2.2.2.2 c hc
    obtain ⟨u1, u2⟩ := h2.2.2.2.2 c hc
    obtain ⟨v1, v2⟩ := h4.2.2.2.2 c hc
    rw [Nat.zero_add] at v1 v2
    have htl : tl = nI (bitsN (tC T) (nD N)) := h2.2.2.1
    have g12 : row 12 = nI (bitsN (tC T) (nD N)) := by have := h4.2.2.1; rwa [Nat.zero_add] at this
    have hb := bitsN_31 (n := tC T) (p := nD N) (by omega)
    simp (disch := omega) only [zc1_e, ne10, if_false, show (7 : Int32) + nI c = nI (7 + c) from by rw [show (7 : Int32) = nI 7 from rfl, nI_add], show (13 : Int32) + nI c = nI (13 + c) from by rw [show (13 : Int32) = nI 13 from rfl, nI_add], show rd 95 row (12 : Int32) = rd 95 row (nI 12) from rfl, rdN, q1, q3, w1, w3, u1, u2, v1, v2, e1, e2, x1, z1, htl, g12, v_goesToLesser, hasN, hxz]
    split
    · exact ⟨_, rfl, rfl⟩
    · split
      · exact ⟨_, rfl, rfl⟩
      · split
        · exact ⟨_, rfl, rfl⟩
        · split
          · exact ⟨_, rfl, rfl⟩
          · split
            · refine ⟨_, ?_, rfl⟩
              cases (bitsN (tC T) (nD N)).testBit c <;> rfl
            · split
              · exact ⟨_, rfl, rfl⟩
              · split
                · exact ⟨_, rfl, rfl⟩
                · exact ⟨_, rfl, rfl⟩
  · rw [(hasChild_ix hsz).2 p1 ho, (isChild_ix hsz).2 p1 ho]
    exact ⟨_, rfl, rfl⟩
def okK (a n : Nat) : Bool := n == 0 || n == a + 1 || (n == 1 && a == 1)
theorem v_isOfKind : ∀ a, a < 4 → ∀ n, n < 5 → F_X8_isOfKind (nI a) (nI n) = some (if okK a n then 1 else 0) := by decide +kernel
theorem b_as {T : TA} {N : NA} {yards seeps children hours filled tl : Int32} {tides seepYard seepSize growth level kind childYard pace ear size yard oranges : Nat → Int32} {p1 p2 : Int32} (hT : okT T) (hN : okN T N 9999) (h1 : rT yards seeps children tides seepYard seepSize growth level kind childYard pace ear T) (h2 : rN hours filled tl size yard oranges T N)
    {my ms mc : Int32} {row mt mseeps mk mp me : Nat → Int32} (h3 : mT my ms mc row mt mseeps mk mp me T) (h4 : mN 0 row T N) : ∃ r, F_X8_as seeps children seepYard kind ear hours filled yard p1 p2 = some r ∧ F_X9_as ms mc row mseeps mk me p1 p2 = some r := by
  have a4 : tC T ≤ 5 := hT.2.2.2.1
  have hsz : tC T < 2 ^ 30 := by omega
  unfold F_X8_as F_X9_as
  rw [show children = nI (tC T) from h1.2.2.1, show mc = nI (tC T) from h3.2.2.1]
  rcases ixC p1 hsz with ⟨c, hc, rfl⟩ | ho
  · rw [(hasChild_ix hsz).1 c hc, (isChild_ix hsz).1 c hc, v_isWithin, W0', W4, v_in]
    have e1 := v_heardBy hT hN (by omega) hc h1 h2
    have e2 : F_X9_hears ms row mseeps mk me (0 : Int32) (nI c) = _ := m_hears hT hN (by omega) (show 0 ≤ 76 by omega) hc h3 h4
    by_cases hr : (0 : Int32) ≤ p2 ∧ p2 ≤ (4 : Int32)
    · obtain ⟨n, n1, n2, rfl⟩ := inNat (a := 0) (b := 4) (by omega) hr (by omega)
      have hk := (hT.2.2.2.2.2.2 c hc).1
      simp (disch := omega) only [zc1_e, ne10, if_false, if_pos hr, rdN, (h1.2.2.2.2.2 c hc).1, (h3.2.2.2.2.2 c hc).1, v_isOfKind (tKd T c) (by omega) n (by omega), e1, e2]
      generalize tKd T c = a at hk
      generalize nI (hearN T N c) = X
      rcases (show a = 0 ∨ a = 1 ∨ a = 2 ∨ a = 3 by omega) with rfl | rfl | rfl | rfl <;> rcases (show n = 0 ∨ n = 1 ∨ n = 2 ∨ n = 3 ∨ n = 4 by omega) with rfl | rfl | rfl | rfl | rfl <;> exact ⟨_, rfl, rfl⟩
    · simp only [zc1_e, ne10, if_false, if_neg hr, eq00, if_true]
      exact ⟨_, rfl, rfl⟩
  · rw [(hasChild_ix hsz).2 p1 ho, (isChild_ix hsz).2 p1 ho]
    exact ⟨_, rfl, rfl⟩
def brokenP (Z : Nat → Nat) : Nat → Bool := fun s => decide (100 ≤ Z s)
theorem v_broken {S : Nat} {Z : Nat → Nat} {size : Nat → Int32} (hS : S ≤ 6) (hz : ∀ s, s < S → size s = nI (Z s) ∧ Z s ≤ 100) : F_X3_brokenSeeps (nI S) size = some (nI (bitsN S (brokenP Z))) := by
  unfold F_X3_brokenSeeps
  refine zl2_for (fun i => nI (bitsN i (brokenP Z))) (fun i => nI i) S (fun i hi k => ?_) (fun k => ?_) S 0 FU rfl (by omega) (by unfold FU; omega)
  · obtain ⟨e1, e2⟩ := hz i hi
    rw [← bitsN_or i (brokenP Z)]
    simp (disch := omega) only [leN, ltN, show ¬ S ≤ i by omega, e1, shl1, fa_or, zj0, zj1, zj2, zj3, zj4, zj9, bdE, nI_add, pk_mul, pk_sub, rdN, wrN, zc0_e, zc1_e, zc2_e, zc3_e, zc4_e, zc5_e, nI_1, nI_clamp, bzp, ne10, eq00, ne01, eq11, if_true, if_false, or0, ckZ1, ckZ0, ckZp, L2, L3, L4, L5, L6, L7, L8, L9, L10, L11, L12, L13, L18, L19, L23, L24, L32, L48, L57, L59, L76, L96, L97, L99, L100, L122, L120, L200, L999, L9999]
    unfold brokenP
    by_cases h : 100 ≤ Z i
    · simp [h, show ¬ Z i < 100 by omega]
    · simp [h, show Z i < 100 by omega]
  · simp (disch := omega) only [leN, Nat.le_refl, if_true]
theorem b_count {T : TA} {N : NA} {yards seeps children hours filled tl : Int32} {tides seepYard seepSize growth level kind childYard pace ear size yard oranges : Nat → Int32} {len cnt p : Int32} (hT : okT T) (hN : okN T N 9999) (h1 : rT yards seeps children tides seepYard seepSize growth level kind childYard pace ear T) (h2 : rN hours filled tl size yard oranges T N)
    {my ms mc : Int32} {row mt mseeps mk mp me : Nat → Int32} (h3 : mT my ms mc row mt mseeps mk mp me T) (h4 : mN 0 row T N) : ∃ r, F_X8_count len yards seeps children hours filled size cnt p = some r ∧ F_X9_count len my ms mc cnt row p = some r := by
  have a3 : tS T ≤ 6 := hT.2.2.1
  have hz : ∀ s, s < tS T → row s = nI (nS N s) ∧ nS N s ≤ 100 := fun s hs => ⟨by have := h4.2.2.2.1 s hs; rwa [Nat.zero_add] at this, (hN.2.1 s hs).2⟩
  have hb := v_broken a3 (fun s hs => ⟨h2.2.2.2.1 s hs, (hN.2.1 s hs).2⟩)
  have g18 : row 18 = nI (nH N) := by have := h4.1; rwa [Nat.zero_add] at this
  have g6 : row 6 = nI (bitsN (tS T) (nF N)) := by have := h4.2.1; rwa [Nat.zero_add] at this
  obtain ⟨q1, q2, q3, -⟩ := h1
  obtain ⟨w1, w2, w3, -⟩ := h3
  have key : F_X9_count len my ms mc cnt row p = F_X8_count len yards seeps children hours filled size cnt p := by
    unfold F_X9_count
    refine zl2_for (fun i => nI (bitsN i (brokenP (nS N)))) (fun i => nI i) (tS T) (fun i hi k => ?_) (fun k => ?_) (tS T) 0 FU rfl (by omega) (by unfold FU; omega)
    · obtain ⟨e1, e2⟩ := hz i hi
      rw [← bitsN_or i (brokenP (nS N))]
      simp (disch := omega) only [w2, leN, eqN, show ¬ tS T ≤ i by omega, e1, shl1, fa_or, zj0, zj1, zj2, zj3, zj4, zj9, bdE, nI_add, pk_mul, pk_sub, rdN, wrN, zc0_e, zc1_e, zc2_e, zc3_e, zc4_e, zc5_e, nI_1, nI_clamp, bzp, ne10, eq00, ne01, eq11, if_true, if_false, or0, ckZ1, ckZ0, ckZp, L2, L3, L4, L5, L6, L7, L8, L9, L10, L11, L12, L13, L18, L19, L23, L24, L32, L48, L57, L59, L76, L96, L97, L99, L100, L122, L120, L200, L999, L9999]
      unfold brokenP
      by_cases h : nS N i = 100
      · simp [h]
      · simp [h, show ¬ 100 ≤ nS N i by omega]
    · simp (disch := omega) only [w1, w2, w3, leN, Nat.le_refl, if_true, show rd 95 row (18 : Int32) = rd 95 row (nI 18) from rfl, show rd 95 row (6 : Int32) = rd 95 row (nI 6) from rfl, rdN, g18, g6]
      unfold F_X8_count
      rw [q1, q2, q3, hb, h2.1, h2.2.1, zc1_e]
  rw [key]
  unfold F_X8_count
  rw [q2, hb, zc1_e]
  split
  · exact ⟨_, rfl, rfl⟩
  · split
    · exact ⟨_, rfl, rfl⟩
    · split
      · exact ⟨_, rfl, rfl⟩
      · split
        · exact ⟨_, rfl, rfl⟩
        · split
          · exact ⟨_, rfl, rfl⟩
          · split
            · exact ⟨_, rfl, rfl⟩
            · split
              · exact ⟨_, rfl, rfl⟩
              · split
                · exact ⟨_, rfl, rfl⟩
                · exact ⟨_, rfl, rfl⟩
