/-! ===== heard in time ===== -/
def mxD (d : Nat → Nat) (q : Nat → Bool) : Nat → Nat
  | 0 => 0
  | n + 1 => if q n then (if mxD d q n < d n then d n else mxD d q n) else mxD d q n
theorem mxD_ge {d : Nat → Nat} {q : Nat → Bool} {n : Nat} : ∀ s, s < n → q s = true → d s ≤ mxD d q n := by
  induction n with
  | zero => intro s hs; omega
  | succ n ih =>
    intro s hs hq
    simp only [mxD]
    by_cases e : s = n
    · subst e
      rw [if_pos hq]; split <;> omega
    · have := ih s (by omega) hq
      split
      · split <;> omega
      · exact this
theorem mxD_le {d : Nat → Nat} {q : Nat → Bool} {M : Nat} (h : ∀ s, d s ≤ M) (n : Nat) : mxD d q n ≤ M := by
  induction n with
  | zero => exact Nat.zero_le _
  | succ n ih =>
    simp only [mxD]
    split
    · split
      · exact h n
      · exact ih
    · exact ih
theorem v_lastBreakHour {T : TA} {N : NA} {seeps : Int32} {g : Nat → Int32} {q : Nat → Bool} (hT : okT T) (hs : seeps = nI (tS T)) (hg : ∀ s, s < tS T → g s = bhV T N s) (hq : ∀ s, q s = true → brP T N s = true) : F_X1_lastBreakHour seeps g (nI (bitsN (tS T) q)) = some (nI (mxD (dN T N) q (tS T))) := by
  have a3 : tS T ≤ 6 := hT.2.2.1
  have hb := bitsN_31 (n := tS T) (p := q) (by omega)
  unfold F_X1_lastBreakHour
  refine zl2_for (fun i => nI (mxD (dN T N) q i)) (fun i => nI i) (tS T) (fun i hi k => ?_) (fun k => ?_) (tS T) 0 FU rfl (by omega) (by unfold FU; omega)
  · have htb : (bitsN (tS T) q).testBit i = q i := by rw [bitsN_test]; simp [hi]
    have l1 := mxD_le (q := q) (fun s => (bhV_cases T N s).1) i
    have l2 := (bhV_cases T N i).1
    cases hqi : q i
    · simp (disch := omega) only [hs, leN, show ¬ tS T ≤ i by omega, v_hasBit, htb, hqi, mxD, Bool.false_eq_true, zc1_e, if_false, eq00, if_true, bdE, nI_1]
    · have e := brP_bh (hq i hqi)
      have e2 := hg i hi
      rw [e] at e2
      simp (disch := omega) only [hs, leN, ltN, show ¬ tS T ≤ i by omega, v_hasBit, htb, hqi, mxD, zc1_e, if_false, ne10, if_true, bdE, nI_1, rdN, e2]
      split <;> rfl
  · simp (disch := omega) only [hs, leN, Nat.le_refl, if_true]
theorem v_unbrokenIn {T : TA} {N : NA} {seeps : Int32} {g : Nat → Int32} {q : Nat → Bool} {t : Nat} (hT : okT T) (ht : t < 2 ^ 30) (hs : seeps = nI (tS T)) (hg : ∀ s, s < tS T → g s = bhV T N s) (hq : ∀ s, q s = true → brP T N s = true) : F_X1_unbrokenIn seeps g (nI t) (nI (bitsN (tS T) q)) = some (nI (bitsN (tS T) (fun s => q s && decide (t < dN T N s)))) := by
  have a3 : tS T ≤ 6 := hT.2.2.1
  have hb := bitsN_31 (n := tS T) (p := q) (by omega)
  unfold F_X1_unbrokenIn
  refine zl2_for (fun i => nI (bitsN i (fun s => q s && decide (t < dN T N s)))) (fun i => nI i) (tS T) (fun i hi k => ?_) (fun k => ?_) (tS T) 0 FU rfl (by omega) (by unfold FU; omega)
  · have htb : (bitsN (tS T) q).testBit i = q i := by rw [bitsN_test]; simp [hi]
    have l2 := (bhV_cases T N i).1
    rw [← bitsN_or i (fun s => q s && decide (t < dN T N s))]
    cases hqi : q i
    · simp (disch := omega) only [hs, leN, show ¬ tS T ≤ i by omega, v_hasBit, htb, hqi, Bool.false_eq_true, zc1_e, if_false, eq00, if_true, bdE, nI_1, zj1, or0, Bool.false_and, Nat.or_zero]
    · have e := brP_bh (hq i hqi)
      have e2 := hg i hi
      rw [e] at e2
      simp (disch := omega) only [hs, leN, show ¬ tS T ≤ i by omega, v_hasBit, htb, hqi, zc1_e, if_false, ne10, if_true, bdE, nI_1, rdN, e2, zj1, shl1, fa_or, or0, Bool.true_and]
      by_cases h : t < dN T N i
      · simp [h, show ¬ dN T N i ≤ t by omega]
      · simp [h, show dN T N i ≤ t by omega]
  · simp (disch := omega) only [hs, leN, Nat.le_refl, if_true]
/-- one child walks on alone -/
def chN (T : TA) (N : NA) (c i : Nat) : NA := (nH N + i, nF N, fun j => if j = c then nD (hoursN T i N) c else nD N j, nS N, fun j => if j = c then nY (hoursN T i N) c else nY N j, nO N)
theorem chN_hear (T : TA) (N : NA) (c i : Nat) : hearN T (chN T N c i) c = hearN T (hoursN T i N) c := by
  have e1 : nF (chN T N c i) = nF N := rfl
  have e2 : nH (chN T N c i) = nH N + i := rfl
  have e3 : nY (chN T N c i) c = nY (hoursN T i N) c := if_pos rfl
  unfold hearN earN
  rw [e1, e2, e3, hoursN_F, hoursN_H]
theorem min_any {p : Nat → Bool} {i d : Nat} : (anyQ p (min i d) || (p i && decide (i < d))) = anyQ p (min (i + 1) d) := by
  by_cases h : i < d
  · rw [Nat.min_eq_left (by omega), Nat.min_eq_left (by omega)]; simp [h, anyQ]
  · rw [Nat.min_eq_right (by omega), Nat.min_eq_right (by omega)]; simp [h]
/-! one round of a walk: behind 2 (yards - 1) hours a child is at the same yard, his ear no better -/
def phC (Y : Nat) (q : Bool × Nat) : Nat := if q.1 = true ∧ q.2 ≠ 0 then 2 * (Y - 1) - q.2 else q.2
def ydC (Y p : Nat) : Nat := if p ≤ Y - 1 then p else 2 * (Y - 1) - p
theorem phC_yd {Y : Nat} {q : Bool × Nat} (h : q.2 < Y) : ydC Y (phC Y q) = q.2 := by
  obtain ⟨b, y⟩ := q
  have h : y < Y := h
  unfold ydC phC
  cases b
  · simp only [Bool.false_eq_true, false_and, if_false]; rw [if_pos (by omega)]
  · by_cases e : y = 0
    · simp [e]
    · simp only [ne_eq, e, not_false_eq_true, and_self, if_true]
      split <;> omega
theorem phC_lt {Y : Nat} {q : Bool × Nat} (hY : 4 ≤ Y) (h : q.2 < Y) : phC Y q < 2 * (Y - 1) := by
  obtain ⟨b, y⟩ := q
  have h : y < Y := h
  unfold phC
  split
  · rename_i g
    have : y ≠ 0 := g.2
    show 2 * (Y - 1) - y < _
    omega
  · show y < _
    omega
theorem stepC_ph {Y : Nat} {q : Bool × Nat} (hY : 4 ≤ Y) (h : q.2 < Y) : phC Y (stepC Y q) = (phC Y q + 1) % (2 * (Y - 1)) := by
  obtain ⟨b, y⟩ := q
  have h : y < Y := h
  cases b
  · by_cases e : y = Y - 1
    · have e1 : stepC Y (false, y) = (true, y - 1) := by unfold stepC; simp [e]
      have e2 : phC Y (false, y) = y := by unfold phC; simp
      have e3 : phC Y (true, y - 1) = 2 * (Y - 1) - (y - 1) := by unfold phC; rw [if_pos ⟨rfl, by show y - 1 ≠ 0; omega⟩]
      rw [e1, e2, e3, Nat.mod_eq_of_lt (by omega)]; omega
    · have e1 : stepC Y (false, y) = (false, y + 1) := by unfold stepC; simp [e]
      have e2 : phC Y (false, y) = y := by unfold phC; simp
      have e3 : phC Y (false, y + 1) = y + 1 := by unfold phC; simp
      rw [e1, e2, e3, Nat.mod_eq_of_lt (by omega)]
  · by_cases e : y = 0
    · have e1 : stepC Y (true, y) = (false, y + 1) := by unfold stepC; simp [e]
      have e2 : phC Y (true, y) = 0 := by unfold phC; simp [e]
      have e3 : phC Y (false, y + 1) = y + 1 := by unfold phC; simp
      rw [e1, e2, e3, Nat.mod_eq_of_lt (by omega), e]
    · have e1 : stepC Y (true, y) = (true, y - 1) := by unfold stepC; simp [e]
      have e2 : phC Y (true, y) = 2 * (Y - 1) - y := by unfold phC; rw [if_pos ⟨rfl, e⟩]
      rw [e1, e2]
      by_cases g : y = 1
      · have e3 : phC Y (true, y - 1) = 0 := by unfold phC; simp [g]
        rw [e3, show 2 * (Y - 1) - y + 1 = 2 * (Y - 1) by omega, Nat.mod_self]
      · have e3 : phC Y (true, y - 1) = 2 * (Y - 1) - (y - 1) := by unfold phC; rw [if_pos ⟨rfl, by show y - 1 ≠ 0; omega⟩]
        rw [e3, Nat.mod_eq_of_lt (by omega)]; omega
theorem wkC_ph {Y : Nat} {q : Bool × Nat} (hY : 4 ≤ Y) (h : q.2 < Y) (n : Nat) : phC Y (wkC Y n q) = (phC Y q + n) % (2 * (Y - 1)) := by
  induction n with
  | zero => exact (Nat.mod_eq_of_lt (phC_lt hY h)).symm
  | succ n ih =>
    show phC Y (stepC Y (wkC Y n q)) = _
    rw [stepC_ph hY (wkC_lt (by omega) n h), ih, Nat.mod_add_mod, Nat.add_assoc]
theorem hoursN_ph {T : TA} {N : NA} {M c : Nat} (hT : okT T) (hN : okN T N M) (hc : c < tC T) (i : Nat) : phC (tY T) (nD (hoursN T i N) c, nY (hoursN T i N) c) = (phC (tY T) (nD N c, nY N c) + i * tPc T c) % (2 * (tY T - 1)) := by
  induction i with
  | zero =>
    rw [Nat.zero_mul]
    exact (Nat.mod_eq_of_lt (phC_lt hT.1 (hN.2.2 c hc))).symm
  | succ i ih =>
    show phC (tY T) (wkC (tY T) (tPc T c) (nD (hoursN T i N) c, nY (hoursN T i N) c)) = _
    rw [wkC_ph hT.1 ((hoursN_ok hT hN i).2.2 c hc), ih, Nat.mod_add_mod, Nat.add_assoc, Nat.succ_mul i]
theorem hoursN_round {T : TA} {N : NA} {M c : Nat} (hT : okT T) (hN : okN T N M) (hc : c < tC T) (i : Nat) : nY (hoursN T (i + 2 * (tY T - 1)) N) c = nY (hoursN T i N) c := by
  have h1 := hoursN_ph hT hN hc (i + 2 * (tY T - 1))
  have h2 := hoursN_ph hT hN hc i
  rw [Nat.add_mul, ← Nat.add_assoc, Nat.add_mul_mod_self_left, ← h2] at h1
  have h3 := congrArg (ydC (tY T)) h1
  rw [phC_yd ((hoursN_ok hT hN _).2.2 c hc), phC_yd ((hoursN_ok hT hN i).2.2 c hc)] at h3
  exact h3
theorem hear_round {T : TA} {N : NA} {M c : Nat} (hT : okT T) (hN : okN T N M) (hc : c < tC T) {s i : Nat} (h : hrP T N c s (i + 2 * (tY T - 1)) = true) : hrP T N c s i = true := by
  unfold hrP hearN at h ⊢
  by_cases hk : tKd T c < 2
  · rw [if_pos hk, bitsN_test] at h ⊢
    rw [hoursN_F, hoursN_round hT hN hc] at h
    rw [hoursN_F]
    unfold heardP at h ⊢
    simp only [Bool.and_eq_true, decide_eq_true_eq] at h ⊢
    refine ⟨h.1, h.2.1, Nat.le_trans h.2.2 ?_⟩
    unfold earN
    rw [hoursN_H, hoursN_H]
    split <;> omega
  · rw [if_neg hk] at h
    simp at h
theorem hear_mod {T : TA} {N : NA} {M c : Nat} (hT : okT T) (hN : okN T N M) (hc : c < tC T) {s i : Nat} (n : Nat) (h : hrP T N c s (i + 2 * (tY T - 1) * n) = true) : hrP T N c s i = true := by
  induction n with
  | zero => exact h
  | succ n ih => exact ih (hear_round hT hN hc (by rw [Nat.add_assoc, ← Nat.mul_succ]; exact h))
theorem any_round {T : TA} {N : NA} {M c : Nat} (hT : okT T) (hN : okN T N M) (hc : c < tC T) (s d : Nat) : anyQ (hrP T N c s) (min (2 * (tY T - 1)) d) = anyQ (hrP T N c s) d := by
  have a1 := hT.1
  rw [Bool.eq_iff_iff, anyQ_iff, anyQ_iff]
  constructor
  · rintro ⟨u, u1, u2⟩
    exact ⟨u, by omega, u2⟩
  · rintro ⟨u, u1, u2⟩
    have l1 : u % (2 * (tY T - 1)) < 2 * (tY T - 1) := Nat.mod_lt _ (by omega)
    have l2 : u % (2 * (tY T - 1)) ≤ u := Nat.mod_le _ _
    exact ⟨u % (2 * (tY T - 1)), by omega, hear_mod hT hN hc (u / (2 * (tY T - 1))) (by rw [Nat.mod_add_div]; exact u2)⟩
theorem v_findHeardInTime {T : TA} {N : NA} {yards seeps children hours filled tl hh hf htl : Int32} {tides seepYard seepSize growth level kind childYard pace ear size yard oranges hs hy ho g : Nat → Int32} {q : Nat → Bool} {c : Nat} (hT : okT T) (hN : okN T N 9999) (hc : c < tC T) (h1 : rT yards seeps children tides seepYard seepSize growth level kind childYard pace ear T) (h2 : rN hours filled tl size yard oranges T N) (hg : ∀ s, s < tS T → g s = bhV T N s) (hq : ∀ s, q s = true → brP T N s = true) :
    ∃ b, F_X1_findHeardInTime yards seeps seepYard kind pace ear hours filled tl size yard oranges hh hf htl hs hy ho g (nI c) (nI (bitsN (tS T) q)) = some (nI (bitsN (tS T) (fun s => q s && HP T N c s)), b) ∧ True := by
  have a3 : tS T ≤ 6 := hT.2.2.1
  have a4 : tC T ≤ 5 := hT.2.2.2.1
  have hbq := bitsN_31 (n := tS T) (p := q) (by omega)
  refine ex_pair (P := fun _ => True) ?_
  obtain ⟨s', y', o', c1, c2⟩ := v_copyN (h1 := hh) (f1 := hf) (t1 := htl) (s1 := hs) (y1 := hy) (o1 := ho) hT h2
  have a1 : 4 ≤ tY T := hT.1
  have a2 : tY T ≤ 24 := hT.2.1
  have lle0 := mxD_le (q := q) (fun s => (bhV_cases T N s).1) (tS T)
  have lge0 := mxD_ge (d := dN T N) (q := q) (n := tS T)
  have hrnd : (2 : Int32) * (yards - (1 : Int32)) = nI (2 * (tY T - 1)) := by
    rw [h1.1]
    simp (disch := omega) only [subN1, zj0, zj1, zj2, zj3, zj4, zj9, bdE, nI_add, pk_mul, pk_sub, rdN, wrN, zc0_e, zc1_e, zc2_e, zc3_e, zc4_e, zc5_e, nI_1, nI_clamp, bzp, ne10, eq00, ne01, eq11, if_true, if_false, or0, ckZ1, ckZ0, ckZp, L2, L3, L4, L5, L6, L7, L8, L9, L10, L11, L12, L13, L18, L19, L23, L24, L32, L48, L57, L59, L76, L96, L97, L99, L100, L122, L120, L200, L999, L9999]
  have hmin : (if nI (mxD (dN T N) q (tS T)) < nI (2 * (tY T - 1)) then nI (mxD (dN T N) q (tS T)) else nI (2 * (tY T - 1))) = nI (if mxD (dN T N) q (tS T) < 2 * (tY T - 1) then mxD (dN T N) q (tS T) else 2 * (tY T - 1)) := by
    simp (disch := omega) only [ltN]
    split <;> rfl
  unfold F_X1_findHeardInTime
  rw [hrnd, bdE, v_lastBreakHour hT h1.2.1 hg hq, zc1_e, hmin, bdE, c1, zc6_e]
  have lle : (if mxD (dN T N) q (tS T) < 2 * (tY T - 1) then mxD (dN T N) q (tS T) else 2 * (tY T - 1)) ≤ 999 := by split <;> omega
  have lge : ∀ s, s < tS T → q s = true → anyQ (hrP T N c s) (min (if mxD (dN T N) q (tS T) < 2 * (tY T - 1) then mxD (dN T N) q (tS T) else 2 * (tY T - 1)) (dN T N s)) = HP T N c s := by
    intro s hs hqs
    split
    · rw [Nat.min_eq_right (lge0 s hs hqs)]; rfl
    · exact any_round hT hN hc s _
  generalize hlast : (if mxD (dN T N) q (tS T) < 2 * (tY T - 1) then mxD (dN T N) q (tS T) else 2 * (tY T - 1)) = last at lle lge
  refine zl5_esc (fun i x j h t y => x = nI (bitsN (tS T) (fun s => q s && anyQ (hrP T N c s) (min i (dN T N s)))) ∧ j = nI i ∧ rN h filled t s' y o' T (chN T N c i)) last (fun i x j h t y hi hI => ?_) (fun x j h t y hI k => ?_) last 0 FU _ _ _ _ _ rfl (by omega) (by unfold FU; omega) ⟨?_, rfl, ?_⟩
  · obtain ⟨rfl, rfl, i3⟩ := hI
    have hbx := bitsN_31 (n := tS T) (p := fun s => q s && anyQ (hrP T N c s) (min i (dN T N s))) (by omega)
    by_cases hfull : bitsN (tS T) (fun s => q s && anyQ (hrP T N c s) (min i (dN T N s))) = bitsN (tS T) q
    · refine Or.inl ⟨(nI (bitsN (tS T) q), h, filled, t, s', y, o'), ⟨?_, trivial⟩, fun k => ?_⟩
      · show nI _ = nI _
        congr 1
        refine bitsN_congr (fun s hs => ?_)
        cases hqs : q s
        · rfl
        · have := congrArg (fun n => n.testBit s) hfull
          simp only [bitsN_test, hs, hqs, decide_true, Bool.true_and] at this
          obtain ⟨u, u1, u2⟩ := anyQ_iff.mp this
          have : HP T N c s = true := anyQ_iff.mpr ⟨u, by omega, u2⟩
          simp [this]
      · rw [hfull]
        simp (disch := omega) only [leN, show ¬ last ≤ i by omega, if_false, if_true]
    · have okc : okN T (chN T N c i) (9999 + i) := by
        obtain ⟨o1, o2, o3⟩ := hN
        have o4 := (hoursN_ok hT ⟨o1, o2, o3⟩ i).2.2
        refine ⟨by show nH N + i ≤ 9999 + i; omega, o2, fun j hj => ?_⟩
        show (if j = c then nY (hoursN T i N) c else nY N j) < tY T
        split
        · exact o4 c hc
        · exact o3 j hj
      have e1 := v_heardBy hT okc (by omega) hc h1 i3
      rw [chN_hear] at e1
      have e2 := v_unbrokenIn (t := i) hT (by omega) h1.2.1 hg hq
      obtain ⟨i31, i32, i33, i34, i35⟩ := i3
      have hyc : y c = nI (nY (hoursN T i N) c) := by
        have := (i35 c hc).1
        rw [this]; show nI (if c = c then _ else _) = _; rw [if_pos rfl]
      obtain ⟨⟨t', y2⟩, w1, w2, w3, w4⟩ := v_walk (N := N) (D := nD (chN T N c i)) (M := nY (hoursN T i N)) hT hc h1.1 (h1.2.2.2.2.2 c hc).2.2.1 i33 hyc ((hoursN_ok hT hN i).2.2 c hc)
      have hDc : nD (chN T N c i) c = nD (hoursN T i N) c := by show (if c = c then _ else _) = _; rw [if_pos rfl]
      rw [hDc] at w2 w3
      have hbits : nI (bitsN (tS T) (fun s => q s && anyQ (hrP T N c s) (min i (dN T N s)))) ||| (nI (hearN T (hoursN T i N) c) &&& nI (bitsN (tS T) (fun s => q s && decide (i < dN T N s)))) = nI (bitsN (tS T) (fun s => q s && anyQ (hrP T N c s) (min (i + 1) (dN T N s)))) := by
        rw [fa_and, fa_or]
        congr 1
        apply Nat.eq_of_testBit_eq
        intro s
        rw [Nat.testBit_or, Nat.testBit_and, bitsN_test, bitsN_test, bitsN_test, ← min_any]
        show _ = (decide (s < tS T) && (q s && (anyQ (hrP T N c s) (min i (dN T N s)) || (hrP T N c s i && decide (i < dN T N s)))))
        unfold hrP
        cases decide (s < tS T) <;> cases q s <;> simp
      have hneq : (nI (bitsN (tS T) (fun s => q s && anyQ (hrP T N c s) (min i (dN T N s)))) = nI (bitsN (tS T) q)) = False := by
        rw [eqN (by omega) (by omega)]; exact eq_false hfull
      refine Or.inr ⟨nI (bitsN (tS T) (fun s => q s && anyQ (hrP T N c s) (min (i + 1) (dN T N s)))), nI (i + 1), nI (nH N + (i + 1)), t', y2, ⟨rfl, rfl, rfl, i32, ?_, i34, fun j hj => ⟨?_, (i35 j hj).2⟩⟩, fun k => ?_⟩
      · refine (show t' = _ from w2).trans ?_
        congr 2
        funext j
        show (if j = c then _ else (if j = c then _ else nD N j)) = if j = c then nD (hoursN T (i + 1) N) c else nD N j
        by_cases e : j = c
        · rw [if_pos e, if_pos e]; rfl
        · rw [if_neg e, if_neg e, if_neg e]
      · show y2 j = nI (if j = c then nY (hoursN T (i + 1) N) c else nY N j)
        by_cases e : j = c
        · rw [if_pos e, e]; exact w3
        · rw [if_neg e]
          refine (w4 j e).trans ?_
          have := (i35 j hj).1
          rw [this]; show nI (if j = c then _ else _) = _; rw [if_neg e]
      · have i31 : h = nI (nH N + i) := i31
        subst i31
        simp (disch := omega) only [leN, show ¬ last ≤ i by omega, hneq, if_false, e1, e2, zc1_e, bdE, hbits, w1, zc2_e, nI_1, Nat.add_assoc]
  · obtain ⟨rfl, rfl, i3⟩ := hI
    rw [if_pos (show nI last ≤ nI last from nI_le (Nat.le_refl _) (by omega))]
    refine ⟨_, rfl, ?_, trivial⟩
    show nI _ = nI _
    congr 1
    refine bitsN_congr (fun s hs => ?_)
    cases hqs : q s
    · rfl
    · rw [lge s hs hqs]
  · have : bitsN (tS T) (fun s => q s && anyQ (hrP T N c s) (min 0 (dN T N s))) = 0 := by
      rw [bitsN_any]
      refine (Bool.eq_false_iff.mpr (fun h => ?_))
      obtain ⟨u, u1, u2⟩ := anyQ_iff.mp h
      rw [Nat.zero_min] at u2
      simp [anyQ] at u2
    rw [this]; rfl
  · obtain ⟨p1, p2, p3, p4, p5⟩ := c2
    refine ⟨p1, p2, ?_, p4, fun j hj => ⟨?_, (p5 j hj).2⟩⟩
    · rw [p3]
      congr 2
      funext j
      show nD N j = if j = c then nD N c else nD N j
      by_cases e : j = c
      · rw [if_pos e, e]
      · rw [if_neg e]
    · rw [(p5 j hj).1]
      congr 1
      show nY N j = if j = c then nY N c else nY N j
      by_cases e : j = c
      · rw [if_pos e, e]
      · rw [if_neg e]
/-- what a set of children misses -/
def misP (T : TA) (N : NA) (X n : Nat) : Nat → Bool := fun s => brP T N s && !anyQ (fun c => X.testBit c && HP T N c s) n
theorem v_missedBy {T : TA} {N : NA} {yards seeps children hours filled tl hh hf htl : Int32} {tides seepYard seepSize growth level kind childYard pace ear size yard oranges hs hy ho bh : Nat → Int32} {X : Nat} (hT : okT T) (hN : okN T N 9999) (hX : X < 2 ^ 30) (h1 : rT yards seeps children tides seepYard seepSize growth level kind childYard pace ear T) (h2 : rN hours filled tl size yard oranges T N) :
    ∃ b, F_X1_missedBy yards seeps children tides seepYard growth level kind pace ear hours filled tl size yard oranges hh hf htl hs hy ho bh (nI X) = some (nI (bitsN (tS T) (misP T N X (tC T))), b) ∧ True := by
  have a3 : tS T ≤ 6 := hT.2.2.1
  have a4 : tC T ≤ 5 := hT.2.2.2.1
  have q3 : children = nI (tC T) := h1.2.2.1
  obtain ⟨g, g1, g2⟩ := v_findBreaking (bh := bh) hT hN h1 h2
  refine ex_pair (P := fun _ => True) ?_
  unfold F_X1_missedBy
  rw [g1, zc2_e]
  refine zl8_esc (fun i x j _ _ _ _ _ _ => x = nI (bitsN (tS T) (misP T N X i)) ∧ j = nI i) (tC T) (fun i x j b1 b2 b3 b4 b5 b6 hi hI => ?_) (fun x j b1 b2 b3 b4 b5 b6 hI k => ?_) (tC T) 0 FU _ _ _ _ _ _ _ _ rfl (by omega) (by unfold FU; omega) ⟨?_, rfl⟩
  · obtain ⟨rfl, rfl⟩ := hI
    have hbx := bitsN_31 (n := tS T) (p := misP T N X i) (by omega)
    by_cases hz : bitsN (tS T) (misP T N X i) = 0
    · refine Or.inl ⟨(nI (bitsN (tS T) (misP T N X i)), b1, b2, b3, b4, b5, b6, g), ⟨?_, trivial⟩, fun k => ?_⟩
      · show nI _ = nI _
        congr 1
        refine bitsN_congr (fun s hs => ?_)
        have h0 : misP T N X i s = false := by
          have := congrArg (fun n => n.testBit s) hz
          simp only [bitsN_test, hs, decide_true, Bool.true_and, Nat.zero_testBit] at this
          exact this
        rw [h0]
        unfold misP at h0 ⊢
        cases hbr : brP T N s
        · rfl
        · rw [hbr] at h0
          simp only [Bool.true_and, Bool.not_eq_false'] at h0
          obtain ⟨u, u1, u2⟩ := anyQ_iff.mp h0
          have : anyQ (fun c => X.testBit c && HP T N c s) (tC T) = true := anyQ_iff.mpr ⟨u, by omega, u2⟩
          rw [this]; rfl
      · rw [hz]
        simp (disch := omega) only [q3, leN, show ¬ tC T ≤ i by omega, if_false, show nI 0 = (0 : Int32) from rfl, if_true]
    · have hz' : (nI (bitsN (tS T) (misP T N X i)) = (0 : Int32)) = False := by rw [eq0N (by omega)]; exact eq_false hz
      cases hXi : X.testBit i
      · refine Or.inr ⟨nI (bitsN (tS T) (misP T N X (i + 1))), nI (i + 1), b1, b2, b3, b4, b5, b6, ⟨rfl, rfl⟩, fun k => ?_⟩
        have e : misP T N X (i + 1) = misP T N X i := by
          funext s; unfold misP; simp [anyQ, hXi]
        simp (disch := omega) only [q3, leN, show ¬ tC T ≤ i by omega, if_false, hz', v_hasBit, hXi, Bool.false_eq_true, zc1_e, eq00, if_true, bdE, nI_1, e]
      · obtain ⟨⟨d1, d2, d3, d4, d5, d6⟩, f1, -⟩ := v_findHeardInTime (hh := b1) (hf := b2) (htl := b3) (hs := b4) (hy := b5) (ho := b6) (q := misP T N X i) hT hN hi h1 h2 g2 (fun s h => by unfold misP at h; simp at h; exact h.1)
        have e : nI (bitsN (tS T) (misP T N X i)) &&& (nI (bitsN (tS T) (fun s => misP T N X i s && HP T N i s)) ^^^ (-1 : Int32)) = nI (bitsN (tS T) (misP T N X (i + 1))) := by
          rw [andNotB]
          congr 1
          refine bitsN_congr (fun s _ => ?_)
          unfold misP
          simp only [anyQ, hXi]
          cases brP T N s <;> cases anyQ (fun c => X.testBit c && HP T N c s) i <;> cases HP T N i s <;> rfl
        refine Or.inr ⟨nI (bitsN (tS T) (misP T N X (i + 1))), nI (i + 1), d1, d2, d3, d4, d5, d6, ⟨rfl, rfl⟩, fun k => ?_⟩
        simp (disch := omega) only [q3, leN, show ¬ tC T ≤ i by omega, if_false, hz', v_hasBit, hXi, zc1_e, ne10, if_true, f1, zc7_e, bdE, nI_1, e]
  · obtain ⟨rfl, rfl⟩ := hI
    rw [if_pos (by rw [q3]; exact nI_le (Nat.le_refl _) (by omega))]
    exact ⟨_, rfl, rfl, trivial⟩
  · congr 1
    refine bitsN_congr (fun s _ => ?_)
    unfold misP; simp [anyQ]
