/-! ===== bounds tests, on both sides ===== -/
theorem cmpLt (x y : Int64) : (lg_cmp x y < 0) = (x < y) := by
  have h := lg_cmp_ge x y
  apply propext
  constructor
  · intro a
    rcases Int64.lt_or_le x y with c | c
    · exact c
    · have b := h.mpr c
      rw [fa_lt, Int32.toInt_zero] at a
      rw [fa_le, Int32.toInt_zero] at b
      omega
  · intro a
    have b : ¬ 0 ≤ lg_cmp x y := fun c => by
      have d := h.mp c
      rw [Int64.lt_iff_toInt_lt] at a
      rw [Int64.le_iff_toInt_le] at d
      omega
    rw [fa_le, Int32.toInt_zero] at b
    rw [fa_lt, Int32.toInt_zero]
    omega
theorem cmpGt (x y : Int64) : (0 < lg_cmp x y) = (y < x) := by
  unfold lg_cmp
  by_cases h : x > y
  · rw [if_pos h]; exact propext ⟨fun _ => h, fun _ => by decide⟩
  · rw [if_neg h]
    refine propext ⟨fun a => ?_, fun a => absurd a h⟩
    by_cases e : x = y
    · rw [if_pos e] at a; exact absurd a (by decide)
    · rw [if_neg e] at a; exact absurd a (by decide)
theorem wide_lt (a b : Int32) : (a.toInt64 < b.toInt64) = (a < b) := by
  apply propext
  rw [Int64.lt_iff_toInt_lt, Int32.lt_iff_toInt_lt, Int32.toInt_toInt64, Int32.toInt_toInt64]
theorem v_in (a b c : Int32) : F_X9_in a.toInt64 b.toInt64 c.toInt64 = some (if b ≤ a ∧ a ≤ c then 1 else 0) := by
  unfold F_X9_in
  simp only [cmpLt, cmpGt, wide_lt]
  simp only [fa_lt, fa_le]
  by_cases h1 : a.toInt < b.toInt
  · rw [if_pos h1, if_neg (by omega)]
  · rw [if_neg h1]
    by_cases h2 : c.toInt < a.toInt
    · rw [if_pos h2, if_neg (by omega)]
    · rw [if_neg h2, if_pos (by omega)]
theorem v_isWithin (a b c : Int32) : F_X8_isWithin a b c = some (if b ≤ a ∧ a ≤ c then 1 else 0) := by
  unfold F_X8_isWithin
  simp only [fa_lt, fa_le]
  by_cases h1 : a.toInt < b.toInt
  · rw [if_pos h1, if_neg (by omega)]
  · rw [if_neg h1]
    by_cases h2 : c.toInt < a.toInt
    · rw [if_pos h2, if_neg (by omega)]
    · rw [if_neg h2, if_pos (by omega)]
/-- longs that are ints -/
theorem W1 : (1 : Int64) = (1 : Int32).toInt64 := by decide
theorem W0' : (0 : Int64) = (0 : Int32).toInt64 := by decide
theorem W99 : (99 : Int64) = (99 : Int32).toInt64 := by decide
theorem W8 : (8 : Int64) = (8 : Int32).toInt64 := by decide
theorem W9 : (9 : Int64) = (9 : Int32).toInt64 := by decide
theorem W10 : (10 : Int64) = (10 : Int32).toInt64 := by decide
theorem W11 : (11 : Int64) = (11 : Int32).toInt64 := by decide
theorem W18 : (18 : Int64) = (18 : Int32).toInt64 := by decide
theorem W2 : (2 : Int64) = (2 : Int32).toInt64 := by decide
theorem W3 : (3 : Int64) = (3 : Int32).toInt64 := by decide
theorem W4 : (4 : Int64) = (4 : Int32).toInt64 := by decide
theorem W6 : (6 : Int64) = (6 : Int32).toInt64 := by decide
/-- an int between two small numbers -/
theorem inNat {x : Int32} {a b : Nat} (hb : b < 2 ^ 31) (h : nI a ≤ x ∧ x ≤ nI b) (ha : a ≤ b) : ∃ n, a ≤ n ∧ n ≤ b ∧ x = nI n := by
  obtain ⟨h1, h2⟩ := h
  have h3 : ¬ x < 0 := by
    rw [fa_le, nI_toInt (by omega)] at h1
    rw [fa_lt, Int32.toInt_zero]; omega
  obtain ⟨n, hn, rfl⟩ := nI_of h3
  exact ⟨n, (nI_leI (by omega) hn).mp h1, (nI_leI hn hb).mp h2, rfl⟩
theorem inOut {x : Int32} {a b : Nat} (hb : b < 2 ^ 31) (ha : a ≤ b) (h : ¬ (nI a ≤ x ∧ x ≤ nI b)) (n : Nat) (h1 : a ≤ n) (h2 : n ≤ b) : x ≠ nI n := by
  intro e
  subst e
  exact h ⟨nI_le h1 (by omega), nI_le h2 hb⟩
/-! go -/
theorem b_go {T : TA} {N : NA} {M : Nat} {yards seeps children hours filled tl : Int32} {tides seepYard seepSize growth level kind childYard pace ear size yard oranges : Nat → Int32} {p : Int32} (hT : okT T) (hN : okN T N M) (hM : M ≤ 9999) (h1 : rT yards seeps children tides seepYard seepSize growth level kind childYard pace ear T) (h2 : rN hours filled tl size yard oranges T N)
    {my ms mc : Int32} {row mt mseeps mk mp me : Nat → Int32} (h3 : mT my ms mc row mt mseeps mk mp me T) (h4 : mN 0 row T N) :
    ∃ r h' t' z' y' row' N', F_X8_go yards seeps children tides growth level pace hours filled tl size yard p = some (r, h', t', z', y') ∧ F_X9_go my ms mc row mt mseeps mp p = some (r, row') ∧ okN T N' 9999 ∧ rN h' filled t' z' y' oranges T N' ∧ mN 0 row' T N' ∧ ∀ j, 19 ≤ j → row' j = row j := by
  have hN9 : okN T N 9999 := ⟨by have := hN.1; omega, hN.2⟩
  unfold F_X8_go F_X9_go
  rw [v_isWithin, W1, W99, v_in, zc1_e, zc1_e]
  by_cases hc : (1 : Int32) ≤ p ∧ p ≤ (99 : Int32)
  · obtain ⟨n, n1, n2, rfl⟩ := inNat (a := 1) (b := 99) (by omega) hc (by omega)
    have o1 := hN.1
    have hr := h4.1
    rw [Nat.zero_add] at hr
    have hh : hours = nI (nH N) := h2.1
    simp (disch := omega) only [if_pos hc, ne10, hh, hr, if_false, show (9999 : Int32) = nI 9999 from rfl, pk_sub, leN, show (18 : Int32) = nI 18 from rfl, rdN, nI_add]
    by_cases hl : nH N + n ≤ 9999
    · obtain ⟨q, g1, g2⟩ := v_passHours hT hN (by omega) (show n ≤ 1000 by omega) h1 h2
      rw [if_pos (by omega), if_pos hl]
      rw [hh] at g1
      rw [g1]
      obtain ⟨u1, u2, u3, u4⟩ := q
      have hok := hoursN_ok hT hN n
      have hH : ∀ k, nH (hoursN T k N) = nH N + k := by
        intro k
        induction k with
        | zero => rfl
        | succ k ih => show nH (hoursN T k N) + 1 = _; rw [ih]; rfl
      have key : ∃ r, zl2 (fun x7 h8 ag9 => if nI n ≤ x7 then (some (h8 18, h8)) else (zc1 (F_X9_hour my ms mc h8 mt mseeps mp (0 : Int32)) (fun g13 => bd (x7 + (1 : Int32)) (fun v15 => ag9 v15 g13)))) FU (0 : Int32) row = some r ∧ (r.1 = nI (nH (hoursN T n N)) ∧ mN 0 r.2 T (hoursN T n N) ∧ ∀ j, 19 ≤ j → r.2 j = row j) := by
        refine zl2_inv (fun i x z => x = nI i ∧ mN 0 z T (hoursN T i N) ∧ ∀ j, 19 ≤ j → z j = row j) n (fun i x z hi hI => ?_) (fun x z hI k => ?_) n 0 FU _ _ rfl (by omega) (by unfold FU; omega) ⟨rfl, h4, fun _ _ => rfl⟩
        · obtain ⟨rfl, i2, i3⟩ := hI
          obtain ⟨r, r1, r2, r3⟩ := m_hour hT (hoursN_ok hT hN i) (by omega) (show 0 ≤ 76 by omega) h3 i2
          refine ⟨nI (i + 1), r, ⟨rfl, r2, fun j hj => by rw [r3 j (by omega)]; exact i3 j hj⟩, fun k => ?_⟩
          have r1 : F_X9_hour my ms mc z mt mseeps mp (0 : Int32) = some r := r1
          simp (disch := omega) only [leN, show ¬ n ≤ i by omega, if_false, r1, zc1_e, bdE, nI_1]
        · obtain ⟨rfl, i2, i3⟩ := hI
          have hr := i2.1
          rw [Nat.zero_add] at hr
          simp (disch := omega) only [leN, Nat.le_refl, if_true]
          exact ⟨_, rfl, hr, i2, i3⟩
      obtain ⟨⟨k1, k2⟩, e1, e2, e3, e4⟩ := key
      rw [e1]
      refine ⟨u1, u1, u2, u3, u4, k2, hoursN T n N, rfl, ?_, ⟨by rw [hH]; omega, hok.2⟩, g2, e3, e4⟩
      rw [show k1 = u1 from e2.trans g2.1.symm]
    · rw [if_neg (by omega), if_neg hl]
      exact ⟨_, _, _, _, _, row, N, rfl, rfl, hN9, by rw [← hh]; exact h2, h4, fun _ _ => rfl⟩
  · rw [if_neg hc]
    simp only [eq00, if_true]
    exact ⟨_, _, _, _, _, row, N, rfl, rfl, hN9, h2, h4, fun _ _ => rfl⟩
