/-! ===== storms: the odds, on both sides ===== -/
theorem lz0 (a : Nat) : lN a + (0 : Int64) = lN a := by rw [show (0 : Int64) = lN 0 from rfl, lN_add, Nat.add_zero]
theorem v_reckon {t p g : Nat} {za zb : Int64} {arr : Nat → Int64} {gI : Int32} (ht : t ≤ 18) (hp : p ≤ 10) (hg : (gI = -1 ∧ g = 999) ∨ (gI = nI g ∧ g < 2 ^ 30)) :
    ∃ r, F_X5_reckon za zb arr gI (nI t) (nI p) = some r ∧ (r.1 = lN (cnls t (aM t p g, 10 ^ t)).1 ∧ r.2.1 = lN (cnls t (aM t p g, 10 ^ t)).2) := by
  obtain ⟨g1, c1, c2⟩ := v_countWays (arr := arr) ht hp
  have h10 : 10 ^ t ≤ 10 ^ 18 := Nat.pow_le_pow_right (by omega) ht
  have ha := (st_all (t := t) (p := p) (g := g) (by omega) (by omega)).1
  unfold F_X5_reckon
  rw [c1, zc1_e]
  refine zl2_inv (fun i x b => x = nI i ∧ b = lN (10 ^ i)) t (fun i x b hi hI => ?_) (fun x b hI k => ?_) t 0 FU _ _ (Nat.sub_zero _).symm (by omega) (by unfold FU; omega) ⟨rfl, by rw [Nat.pow_zero]; rfl⟩
  · obtain ⟨rfl, rfl⟩ := hI
    refine ⟨nI (i + 1), lN (10 ^ (i + 1)), ⟨rfl, rfl⟩, fun k => ?_⟩
    rw [if_neg (nI_ge hi (by omega)), bdE, bdE, nI_1, show (10 : Int64) = lN 10 from rfl, lN_mul, ← Nat.pow_succ]
  · obtain ⟨rfl, rfl⟩ := hI
    rw [if_pos (nI_le (Nat.le_refl _) (by omega))]
    refine zl2_inv (fun i x a => x = nI i ∧ a = lN (sumN (fun k => if g ≤ k then tM t p k else 0) i)) (t + 1) (fun i x a hi hI => ?_) (fun x a hI k => ?_) (t + 1) 0 FU _ _ (Nat.sub_zero _).symm (by omega) (by unfold FU; omega) ⟨rfl, by simp only [sumN]; rfl⟩
    · obtain ⟨rfl, rfl⟩ := hI
      refine ⟨nI (i + 1), lN (sumN (fun k => if g ≤ k then tM t p k else 0) (i + 1)), ⟨rfl, rfl⟩, fun k => ?_⟩
      have e1 := c2 i (by omega)
      rw [st_W t (by omega) p (by omega) i hi] at e1
      simp (disch := omega) only [zj0, ltN, show ¬ t < i by omega, if_false, show (18 : Int32) = nI 18 from rfl, show ¬ 18 < i by omega, zj1, bdE, nI_1, rdN, e1, sumN]
      rcases hg with ⟨rfl, rfl⟩ | ⟨rfl, hg⟩
      · rw [if_pos rfl, if_neg (show ¬ 999 ≤ i by omega), lz0]
        simp only [Nat.add_zero]
      · simp (disch := omega) only [neM1, if_false, ltN]
        by_cases h : g ≤ i
        · rw [if_neg (show ¬ i < g by omega), if_pos h, lN_add]
        · rw [if_pos (show i < g by omega), if_neg h, lz0]
          simp only [Nat.add_zero]
    · obtain ⟨rfl, rfl⟩ := hI
      simp (disch := omega) only [zj0, ltN, show t < t + 1 by omega, if_true]
      refine zl3_inv (fun i x a b => x = nI i ∧ a = lN (cnls i (aM t p g, 10 ^ t)).1 ∧ b = lN (cnls i (aM t p g, 10 ^ t)).2) t (fun i x a b hi hI => ?_) (fun x a b hI k => ?_) t 0 FU _ _ _ (Nat.sub_zero _).symm (by omega) (by unfold FU; omega) ⟨rfl, by simp only [cnls]; rfl, by simp only [cnls]⟩
      · obtain ⟨rfl, rfl, rfl⟩ := hI
        have l1 := cnls_le i (aM t p g, 10 ^ t)
        have l2 := cnl_le 2 (cnls i (aM t p g, 10 ^ t))
        have l1a : (cnls i (aM t p g, 10 ^ t)).1 < 9223372036854775808 := Nat.lt_of_le_of_lt l1.1 ha
        have l1b : (cnls i (aM t p g, 10 ^ t)).2 < 9223372036854775808 := Nat.lt_of_le_of_lt l1.2 (by show 10 ^ t < _; omega)
        refine ⟨nI (i + 1), lN (cnls (i + 1) (aM t p g, 10 ^ t)).1, lN (cnls (i + 1) (aM t p g, 10 ^ t)).2, ⟨rfl, rfl, rfl⟩, fun k => ?_⟩
        rw [if_neg (nI_ge hi (by omega)), show (2 : Int32) = nI 2 from rfl, v_cancel l1a l1b (by omega) (by omega), zc2_e]
        rw [show (5 : Int32) = nI 5 from rfl, v_cancel (Nat.lt_of_le_of_lt l2.1 l1a) (Nat.lt_of_le_of_lt l2.2 l1b) (by omega) (by omega), zc2_e, bdE, nI_1]
        simp only [cnls]
      · obtain ⟨rfl, rfl, rfl⟩ := hI
        rw [if_pos (nI_le (Nat.le_refl _) (by omega))]
        exact ⟨_, rfl, rfl, rfl⟩
/-! the reference -/
theorem m_power {v n : Nat} (hn : n ≤ 18) : F_X9_power (lN v) (nI n) = some (lN (v ^ n)) := by
  unfold F_X9_power
  rw [show (1 : Int64) = lN (v ^ 0) from by rw [Nat.pow_zero]; rfl]
  refine zl2_for (fun i => lN (v ^ i)) (fun i => nI i) n (fun i hi k => ?_) (fun k => ?_) n 0 FU (Nat.sub_zero _).symm (by omega) (by unfold FU; omega)
  · rw [if_neg (nI_ge hi (by omega)), bdE, bdE, nI_1, lN_mul, ← Nat.pow_succ]
  · rw [if_pos (nI_le (Nat.le_refl _) (by omega))]
theorem mod_half {a b : Nat} (hb : 0 < b) (h : b ≤ a) : a % b ≤ a / 2 := by
  have h1 := Nat.mod_lt a hb
  rcases Nat.lt_or_ge (a / 2) b with h2 | h2
  · have : a % b = a - b := by
      rw [Nat.mod_eq_sub_mod h, Nat.mod_eq_of_lt (by omega)]
    omega
  · omega
theorem zl2_succ {A B β : Type} {body : A → B → (A → B → Option β) → Option β} {f : Nat} {a : A} {b : B} : zl2 body (f + 1) a b = body a b (zl2 body f) := rfl
theorem m_gcd {β : Type} (K : Int64 → Option β) : ∀ (n f x y : Nat), y < 2 ^ n → 2 * n + 1 ≤ f → x < 9223372036854775808 → n ≤ 63 → zl2 (fun x25 x26 ag27 => if (lg_cmp x26 (0 : Int64)) = 0 then (K x25) else (ckL x26 (bd (x25 - x25 / x26 * x26) (fun v33 => ag27 x26 v33)))) f (lN x) (lN y) = K (lN (Nat.gcd x y)) := by
  have one : ∀ (f x y : Nat), 0 < y → x < 9223372036854775808 → y < 9223372036854775808 → zl2 (fun x25 x26 ag27 => if (lg_cmp x26 (0 : Int64)) = 0 then (K x25) else (ckL x26 (bd (x25 - x25 / x26 * x26) (fun v33 => ag27 x26 v33)))) (f + 1) (lN x) (lN y) = zl2 (fun x25 x26 ag27 => if (lg_cmp x26 (0 : Int64)) = 0 then (K x25) else (ckL x26 (bd (x25 - x25 / x26 * x26) (fun v33 => ag27 x26 v33)))) f (lN y) (lN (x % y)) := fun f x y h0 hx hy => by
    show (if (lg_cmp (lN y) (0 : Int64)) = 0 then (K (lN x)) else (ckL (lN y) (bd (lN x - lN x / lN y * lN y) (fun v33 => zl2 _ f (lN y) v33)))) = _
    rw [if_neg (by rw [cmpEq, lEq0 hy]; omega), ckLp h0 hy, bdE, pk_lRem hx h0 hy]
  have fin : ∀ (f x : Nat), zl2 (fun x25 x26 ag27 => if (lg_cmp x26 (0 : Int64)) = 0 then (K x25) else (ckL x26 (bd (x25 - x25 / x26 * x26) (fun v33 => ag27 x26 v33)))) (f + 1) (lN x) (lN 0) = K (lN x) := fun f x => by
    rw [zl2_succ, if_pos (by rw [cmpEq]; rfl)]
  have gs : ∀ x y, Nat.gcd x y = Nat.gcd y (x % y) := fun x y => by rw [Nat.gcd_comm x y, Nat.gcd_rec y x, Nat.gcd_comm]
  intro n
  induction n with
  | zero =>
    intro f x y hy hf hx hn
    have : y = 0 := by rw [Nat.pow_zero] at hy; omega
    subst this
    obtain ⟨f, rfl⟩ : ∃ u, f = u + 1 := ⟨f - 1, by omega⟩
    rw [fin, Nat.gcd_zero_right]
  | succ n ih =>
    intro f x y hy hf hx hn
    have hp : 2 ^ (n + 1) ≤ 2 ^ 63 := Nat.pow_le_pow_right (by omega) hn
    have hpe : (2 : Nat) ^ 63 = 9223372036854775808 := by decide
    have hps : 2 ^ (n + 1) = 2 * 2 ^ n := by rw [Nat.pow_succ]; omega
    obtain ⟨f, rfl⟩ : ∃ u, f = u + 2 := ⟨f - 2, by omega⟩
    rcases Nat.eq_zero_or_pos y with h0 | h0
    · subst h0
      rw [fin, Nat.gcd_zero_right]
    · rw [one (f + 1) x y h0 hx (by omega), gs x y]
      have hr := Nat.mod_lt x h0
      rcases Nat.eq_zero_or_pos (x % y) with h1 | h1
      · rw [h1, fin, Nat.gcd_zero_right]
      · rw [one f y (x % y) h1 (by omega) (by omega), gs y (x % y)]
        have := mod_half h1 (show x % y ≤ y by omega)
        exact ih f (x % y) (y % (x % y)) (by omega) (by omega) (by omega) (by omega)
def grN (z r : Nat) : Nat := if z < 100 then (if r = 0 then 999 else (100 - z + r - 1) / r) else 0
theorem grN_lt (z r : Nat) (hr : r ≤ 9) : grN z r ≤ 999 := by
  unfold grN
  split
  · split
    · omega
    · exact Nat.le_trans (Nat.div_le_self _ _) (by omega)
  · omega
theorem v_growths {z r : Nat} (hz : z ≤ 100) (hr : r ≤ 9) : ∃ gI, F_X8_growthsToBreak (nI z) (nI r) = some gI ∧ ((gI = -1 ∧ grN z r = 999) ∨ (gI = nI (grN z r) ∧ grN z r < 2 ^ 30)) := by
  have hl := grN_lt z r hr
  unfold F_X8_growthsToBreak
  simp (disch := omega) only [show (100 : Int32) = nI 100 from rfl, ltN, le0N]
  by_cases h : z < 100
  · rw [if_pos h]
    by_cases h2 : r = 0
    · have e : grN z r = 999 := by unfold grN; rw [if_pos h, if_pos h2]
      rw [if_pos h2, e]
      exact ⟨_, rfl, Or.inl ⟨rfl, rfl⟩⟩
    · have e : grN z r = (100 - z + r - 1) / r := by unfold grN; rw [if_pos h, if_neg h2]
      rw [if_neg h2, ckIp (by omega) (by omega), pk_sub hz, nI_add, subN1 _ (by omega), divN (by omega) (by omega) (by omega), ← e]
      exact ⟨_, rfl, Or.inr ⟨rfl, by omega⟩⟩
  · have e : grN z r = 0 := by unfold grN; rw [if_neg h]
    rw [if_neg h, e]
    exact ⟨_, rfl, Or.inr ⟨rfl, by omega⟩⟩
theorem m_growths {z r s : Nat} {row mseeps : Nat → Int32} (hs : s < 6) (hz : z ≤ 100) (hr : r ≤ 9) (h1 : row s = nI z) (h2 : mseeps (3 * s + 1) = nI r) : F_X9_growths row mseeps (nI s) = some (nI (grN z r)) := by
  unfold F_X9_growths grN
  simp (disch := omega) only [show (3 : Int32) = nI 3 from rfl, pk_mul, nI_1, rdN, h1, h2, bdE, show (100 : Int32) = nI 100 from rfl, pk_sub, eq0N]
  by_cases h : z < 100
  · rw [if_neg (show ¬ 100 - z = 0 by omega), if_pos h]
    by_cases e : r = 0
    · rw [if_pos e, if_pos e]; rfl
    · rw [if_neg e, if_neg e, ckIp (by omega) (by omega), nI_add, subN1 _ (by omega), divN (by omega) (by omega) (by omega)]
  · rw [if_pos (show 100 - z = 0 by omega), if_neg h]; rfl
theorem b_storms {T : TA} {N : NA} {yards seeps children hours filled tl : Int32} {tides seepYard seepSize growth level kind childYard pace ear size yard oranges : Nat → Int32} {za zb : Int64} {zw : Nat → Int64} {p1 p2 p3 p4 : Int32} (hT : okT T) (hN : okN T N 9999) (h1 : rT yards seeps children tides seepYard seepSize growth level kind childYard pace ear T) (h2 : rN hours filled tl size yard oranges T N)
    {my ms mc : Int32} {row mt mseeps mk mp me : Nat → Int32} (h3 : mT my ms mc row mt mseeps mk mp me T) (h4 : mN 0 row T N) :
    ∃ r b, F_X8_storms seeps growth filled size za zb zw p1 p2 p3 p4 = some (r, b) ∧ F_X9_storms ms row mseeps p1 p2 p3 p4 = some r := by
  have a3 : tS T ≤ 6 := hT.2.2.1
  have hz1 : tS T < 2 ^ 30 := by omega
  have hb := bitsN_31 (n := tS T) (p := nF N) (by omega)
  have g6 : row 6 = nI (bitsN (tS T) (nF N)) := by have := h4.2.1; rwa [Nat.zero_add] at this
  unfold F_X8_storms F_X9_storms
  rcases ixC p1 hz1 with ⟨s, hs, rfl⟩ | hout
  · have htb : (bitsN (tS T) (nF N)).testBit s = nF N s := by rw [bitsN_test]; simp [hs]
    have k1 : F_X7_hasSeep seeps (nI s) = some 1 := by rw [show seeps = nI (tS T) from h1.2.1]; exact (hasSeep_ix hz1).1 s hs
    have k2 : F_X9_isSeep ms (nI s) = some 1 := by rw [show ms = nI (tS T) from h3.2.1]; exact (isSeep_ix hz1).1 s hs
    have k3 : F_X3_isFilled filled (nI s) = some (if nF N s then 1 else 0) := by rw [show filled = _ from h2.2.1, v_isFilled (by omega) (by omega), htb]
    have k4 : F_X9_has (nI (bitsN (tS T) (nF N))) (nI s) = some (if nF N s then 1 else 0) := by rw [v_has (by omega) (by omega), htb]
    have k5 : ∀ p, F_X9_in (p.toInt64) (0 : Int64) (18 : Int64) = some (if (0 : Int32) ≤ p ∧ p ≤ (18 : Int32) then 1 else 0) := fun p => by rw [W0', W18, v_in]
    have k6 : ∀ p, F_X9_in (p.toInt64) (0 : Int64) (10 : Int64) = some (if (0 : Int32) ≤ p ∧ p ≤ (10 : Int32) then 1 else 0) := fun p => by rw [W0', W10, v_in]
    have k7 : ∀ p, F_X9_in (p.toInt64) (0 : Int64) (1 : Int64) = some (if (0 : Int32) ≤ p ∧ p ≤ (1 : Int32) then 1 else 0) := fun p => by rw [W0', W1, v_in]
    simp only [k1, k2, k3, k5, k6, k7, v_isWithin, zc1_e, ne10, if_false]
    by_cases c2 : (0 : Int32) ≤ p2 ∧ p2 ≤ (18 : Int32)
    · by_cases c3 : (0 : Int32) ≤ p3 ∧ p3 ≤ (10 : Int32)
      · by_cases c4 : (0 : Int32) ≤ p4 ∧ p4 ≤ (1 : Int32)
        · obtain ⟨t, -, t2, rfl⟩ := inNat (a := 0) (b := 18) (by omega) c2 (by omega)
          obtain ⟨p, -, pl, rfl⟩ := inNat (a := 0) (b := 10) (by omega) c3 (by omega)
          simp only [if_pos c2, if_pos c3, if_pos c4, ne10, if_false]
          have k8 : ∀ k : Int32 → Option Int64, rd 95 row (6 : Int32) k = k (nI (bitsN (tS T) (nF N))) := fun k => by
            rw [show (6 : Int32) = nI 6 from rfl, rdN (by omega) (by omega), g6]
          rw [k8, k4, zc1_e]
          cases hf : nF N s
          · simp only [Bool.false_eq_true, if_false, eq00, if_true]
            have hz := (hN.2.1 s hs).2
            have hr := (hT.2.2.2.2.2.1 s hs).2.2.2.1
            obtain ⟨gI, u1, u2⟩ := v_growths (z := nS N s) (r := tGr T s) hz hr
            obtain ⟨⟨r1, r2, r3⟩, e1, e2, e3⟩ := v_reckon (za := za) (zb := zb) (arr := zw) (g := grN (nS N s) (tGr T s)) t2 pl u2
            have e2 : r1 = _ := e2
            have e3 : r2 = _ := e3
            have hgl := grN_lt (nS N s) (tGr T s) hr
            have ug : F_X9_growths row mseeps (nI s) = some (nI (grN (nS N s) (tGr T s))) := m_growths (by omega) hz hr (by have := h4.2.2.2.1 s hs; rwa [Nat.zero_add] at this) (h3.2.2.2.2.1 s hs).2.2.1
            obtain ⟨ha, hred⟩ := st_all (t := t) (p := p) (g := grN (nS N s) (tGr T s)) (by omega) (by omega)
            rw [hred] at e2 e3
            simp (disch := omega) only [rdN, h2.2.2.2.1 s hs, (h1.2.2.2.2.1 s hs).2.2.1, u1, zc1_e, e1, zc3_e]
            have h10 : 10 ^ t ≤ 10 ^ 18 := Nat.pow_le_pow_right (by omega) t2
            have h10p : 0 < 10 ^ t := Nat.pow_pos (by omega)
            have hgp : 0 < Nat.gcd (aM t p (grN (nS N s) (tGr T s))) (10 ^ t) := Nat.gcd_pos_of_pos_right _ h10p
            have hgl2 : Nat.gcd (aM t p (grN (nS N s) (tGr T s))) (10 ^ t) ≤ 10 ^ t := Nat.le_of_dvd h10p (Nat.gcd_dvd_right _ _)
            generalize hg : grN (nS N s) (tGr T s) = g at *
            have key : ∀ (K : Int64 → Option Int64), zl3 (fun x18 x19 x20 ag21 => if nI t < x20 then (K x18) else (zc1 (F_X9_growths row mseeps (nI s)) (fun v34 => zj1 (fun y36 => bd (x18 + y36) (fun v38 => ckL ((x20 + (1 : Int32)).toInt64) (bd ((x19 * ((nI t - x20).toInt64)) / ((x20 + (1 : Int32)).toInt64)) (fun v40 => bd (x20 + (1 : Int32)) (fun v41 => ag21 v38 v40 v41))))) (fun K37 => if x20 < v34 then (K37 (0 : Int64)) else (zc1 (F_X9_power ((nI p).toInt64) x20) (fun v43 => bd (nI t - x20) (fun v45 => zc1 (F_X9_power ((10 : Int64) - ((nI p).toInt64)) v45) (fun v46 => K37 ((x19 * v43) * v46))))))))) FU (0 : Int64) (1 : Int64) (0 : Int32) = K (lN (aM t p g)) := fun K => by
              rw [show (0 : Int64) = lN (sumN (fun k => if g ≤ k then tM t p k else 0) 0) from rfl, show (1 : Int64) = lN (bn t 0) from rfl]
              refine zl3_for (fun i => lN (sumN (fun k => if g ≤ k then tM t p k else 0) i)) (fun i => lN (bn t i)) (fun i => nI i) (t + 1) (fun i hi k => ?_) (fun k => ?_) (t + 1) 0 FU (Nat.sub_zero _).symm (by omega) (by unfold FU; omega)
              · have hbn := st_b t (by omega) i (by omega)
                have ep : (nI p).toInt64 = lN p := nI_l (by omega)
                have e10 : (10 : Int64) - lN p = lN (10 - p) := by rw [show (10 : Int64) = lN 10 from rfl, lN_sub pl]
                have eti : nI t - nI i = nI (t - i) := pk_sub (by omega)
                have l1 : (nI (i + 1)).toInt64 = lN (i + 1) := nI_l (by omega)
                have l2 : (nI (t - i)).toInt64 = lN (t - i) := nI_l (by omega)
                have p1 := m_power (v := p) (n := i) (by omega)
                have p2 := m_power (v := 10 - p) (n := t - i) (by omega)
                have dv : lN (bn t i) * lN (t - i) / lN (i + 1) = lN (bn t (i + 1)) := by
                  rw [lN_mul, pk_lDiv hbn (by omega) (by omega)]; simp only [bn]
                have s0 : (lN (sumN (fun k => if g ≤ k then tM t p k else 0) 0) : Int64) = 0 := rfl
                simp (disch := omega) only [ltN, show ¬ t < i by omega, if_false, ug, zc1_e, zj1, ep, e10, eti, nI_1, l1, l2, p1, p2, bdE, dv, ckLp, s0]
                by_cases h : g ≤ i
                · rw [if_neg (show ¬ i < g by omega)]
                  simp only [sumN, if_pos h, lN_mul, lN_add, tM]
                · rw [if_pos (show i < g by omega), lz0]
                  simp only [sumN, if_neg h, Nat.add_zero]
              · rw [if_pos (nI_lt (by omega) (by omega))]; rfl
            have pw : F_X9_power (10 : Int64) (nI t) = some (lN (10 ^ t)) := m_power (v := 10) t2
            rw [key, pw, zc1_e]
            rw [m_gcd _ 63 FU _ _ (by omega) (by unfold FU; omega) ha (by omega)]
            rw [ckLp hgp (by omega), ckLp hgp (by omega), pk_lDiv ha hgp (by omega), pk_lDiv (show 10 ^ t < 2 ^ 63 by omega) hgp (by omega), e2, e3]
            split
            · exact ⟨_, _, rfl, rfl⟩
            · exact ⟨_, _, rfl, rfl⟩
          · simp only [if_true, ne10, if_false]
            exact ⟨_, _, rfl, rfl⟩
        · simp only [if_pos c2, if_pos c3, if_neg c4, ne10, if_false, eq00, if_true]
          exact ⟨_, _, rfl, rfl⟩
      · simp only [if_pos c2, if_neg c3, ne10, if_false, eq00, if_true]
        exact ⟨_, _, rfl, rfl⟩
    · simp only [if_neg c2, eq00, if_true]
      exact ⟨_, _, rfl, rfl⟩
  · have k1 : F_X7_hasSeep seeps p1 = some 0 := by rw [show seeps = nI (tS T) from h1.2.1]; exact (hasSeep_ix hz1).2 p1 hout
    have k2 : F_X9_isSeep ms p1 = some 0 := by rw [show ms = nI (tS T) from h3.2.1]; exact (isSeep_ix hz1).2 p1 hout
    rw [k1, k2]
    exact ⟨_, _, rfl, rfl⟩
