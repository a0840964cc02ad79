/-! ===== order ===== -/
def st3 (sy : Nat → Nat) (D : Nat → Int32) (f : Nat → Nat) (y : Nat) : Nat → Nat × Nat × Nat
  | 0 => (0, 0, y)
  | k + 1 => ((st3 sy D f y k).1 + (if D (f k) = -1 then 0 else if nI ((st3 sy D f y k).2.1 + (dist (st3 sy D f y k).2.2 (sy (f k)) + 1)) < D (f k) then 0 else 1), (st3 sy D f y k).2.1 + (dist (st3 sy D f y k).2.2 (sy (f k)) + 1), sy (f k))
theorem st3_ok {sy : Nat → Nat} {D : Nat → Int32} {f : Nat → Nat} {y m : Nat} (hy : y < 24) (hs : ∀ i, i < m → sy (f i) < 24) : ∀ k, k ≤ m → (st3 sy D f y k).1 ≤ k ∧ (st3 sy D f y k).2.1 ≤ 24 * k ∧ (st3 sy D f y k).2.2 < 24
  | 0, _ => ⟨by simp only [st3]; omega, by simp only [st3]; omega, by simp only [st3]; exact hy⟩
  | k + 1, h => by
    obtain ⟨h1, h2, h3⟩ := st3_ok hy hs k (by omega)
    have hd : dist (st3 sy D f y k).2.2 (sy (f k)) < 24 := dist_lt h3 (hs k (by omega))
    simp only [st3]
    refine ⟨?_, by omega, hs k (by omega)⟩
    split
    · omega
    · split <;> omega
theorem zI (a : Nat) : nI a + (0 : Int32) = nI a := by rw [l0, nI_add, Nat.add_zero]
theorem v_lostByRow {m y : Nat} {sy : Nat → Nat} {D : Nat → Int32} {f : Nat → Nat} {seepYard bh row : Nat → Int32} (hm : m ≤ 5) (hy : y < 24) (hf : ∀ i, i < m → row i = nI (f i) ∧ f i < 6 ∧ seepYard (f i) = nI (sy (f i)) ∧ sy (f i) < 24 ∧ bh (f i) = D (f i)) :
    F_X2_lostByRow seepYard (nI m) bh row (nI y) = some (nI (st3 sy D f y m).1) := by
  unfold F_X2_lostByRow
  refine zl4_for (fun k => nI (st3 sy D f y k).1) (fun k => nI (st3 sy D f y k).2.1) (fun k => nI (st3 sy D f y k).2.2) (fun k => nI k) m (fun i hi k => ?_) (fun k => ?_) m 0 FU (Nat.sub_zero _).symm (by omega) (by unfold FU; omega)
  · obtain ⟨f1, f2, f3, f4, f5⟩ := hf i hi
    obtain ⟨g1, g2, g3⟩ := st3_ok (D := D) (f := f) hy (fun i hi => (hf i hi).2.2.2.1) i (by omega)
    have hab := absN (a := (st3 sy D f y i).2.2) (b := sy (f i)) (by omega) (by omega)
    simp (disch := omega) only [leN, show ¬ m ≤ i by omega, if_false, rdN, f1, f3, hab, bdE, nI_1, nI_add, f5, zj1, st3]
    by_cases e1 : D (f i) = -1
    · simp only [e1, if_true, zI, Nat.add_zero]
    · by_cases e2 : nI ((st3 sy D f y i).2.1 + (dist (st3 sy D f y i).2.2 (sy (f i)) + 1)) < D (f i)
      · simp only [e1, e2, if_true, if_false, zI, Nat.add_zero]
      · simp only [e1, e2, if_false, nI_1]
  · rw [if_pos (nI_le (Nat.le_refl _) (by omega))]
theorem m_lostBy {m y v : Nat} {sy : Nat → Nat} {D : Nat → Int32} {ch : Nat → Nat} {mseeps dues chosen : Nat → Int32} (hm : m ≤ 5) (hy : y < 24) (hv : v < fac m) (hf : ∀ i, i < m → chosen i = nI (ch i) ∧ ch i < 6 ∧ mseeps (3 * ch i) = nI (sy (ch i)) ∧ sy (ch i) < 24 ∧ dues (ch i) = D (ch i)) :
    F_X9_lostBy (nI m) mseeps chosen dues (nI v) (nI y) = some (nI (st3 sy D (fun i => ch (Rp m v i)) y m).1) := by
  have hv120 : v < 120 := Nat.lt_of_lt_of_le hv (fac_le hm)
  have hR : ∀ i, i < m → Rp m v i < m := fun i hi => pm_lt m (by omega) v hv120 hv i hi
  unfold F_X9_lostBy
  refine zl4_for (fun k => nI (st3 sy D (fun i => ch (Rp m v i)) y k).2.2) (fun k => nI (st3 sy D (fun i => ch (Rp m v i)) y k).2.1) (fun k => nI (st3 sy D (fun i => ch (Rp m v i)) y k).1) (fun k => nI k) m (fun i hi k => ?_) (fun k => ?_) m 0 FU (Nat.sub_zero _).symm (by omega) (by unfold FU; omega)
  · obtain ⟨f1, f2, f3, f4, f5⟩ := hf (Rp m v i) (hR i hi)
    obtain ⟨g1, g2, g3⟩ := st3_ok (sy := sy) (D := D) (f := fun i => ch (Rp m v i)) (m := m) hy (fun i hi => (hf _ (hR i hi)).2.2.2.1) i (by omega)
    have hro := m_rowOf (chosen := chosen) hm hv hi
    rw [f1] at hro
    simp (disch := omega) only [leN, show ¬ m ≤ i by omega, if_false, hro, zc1_e, show (3 : Int32) = nI 3 from rfl, pk_mul, rdN, f3, v_far, bdE, nI_1, nI_add, f5, zj1, st3]
    by_cases e1 : D (ch (Rp m v i)) = -1
    · simp only [e1, if_true, zI, Nat.add_zero]
    · by_cases e2 : nI ((st3 sy D (fun i => ch (Rp m v i)) y i).2.1 + (dist (st3 sy D (fun i => ch (Rp m v i)) y i).2.2 (sy (ch (Rp m v i))) + 1)) < D (ch (Rp m v i))
      · simp only [e1, e2, if_true, if_false, zI, Nat.add_zero]
      · simp only [e1, e2, if_false, nI_1]
  · rw [if_pos (nI_le (Nat.le_refl _) (by omega))]
/-! the n-th of a set -/
def nth (p : Nat → Bool) : Nat → Nat → Nat
  | 0, _ => 0
  | n + 1, j => if p n = true ∧ cntB p n = j then n else nth p n j
theorem cntB_mn {p : Nat → Bool} {a b : Nat} (h : a ≤ b) : cntB p a ≤ cntB p b := by
  obtain ⟨d, rfl⟩ : ∃ d, b = a + d := ⟨b - a, by omega⟩
  rw [cntB_add]; omega
theorem cntB_s {p : Nat → Bool} {n : Nat} (h : p n = true) : cntB p (n + 1) = cntB p n + 1 := by simp only [cntB, h]; rfl
theorem cntB_f {p : Nat → Bool} {n : Nat} (h : p n = false) : cntB p (n + 1) = cntB p n := by simp only [cntB, h]; rfl
theorem nth_at {p : Nat → Bool} {s : Nat} (hp : p s = true) : ∀ n, s < n → nth p n (cntB p s) = s
  | 0, h => by omega
  | n + 1, h => by
    simp only [nth]
    by_cases e : s = n
    · subst e; rw [if_pos ⟨hp, rfl⟩]
    · rw [if_neg, nth_at hp n (by omega)]
      rintro ⟨-, h2⟩
      have := cntB_mn (p := p) (show s + 1 ≤ n by omega)
      rw [cntB_s hp] at this
      omega
theorem nth_ex {p : Nat → Bool} {j : Nat} : ∀ n, j < cntB p n → ∃ s, s < n ∧ p s = true ∧ cntB p s = j
  | 0, h => by simp only [cntB] at h; omega
  | n + 1, h => by
    by_cases e : j < cntB p n
    · obtain ⟨s, h1, h2⟩ := nth_ex n e
      exact ⟨s, by omega, h2⟩
    · cases hp : p n
      · rw [cntB_f hp] at h; omega
      · rw [cntB_s hp] at h
        exact ⟨n, by omega, hp, by omega⟩
theorem nth_ok {p : Nat → Bool} {n j : Nat} (h : j < cntB p n) : nth p n j < n ∧ p (nth p n j) = true ∧ cntB p (nth p n j) = j := by
  obtain ⟨s, h1, h2, h3⟩ := nth_ex n h
  rw [← h3, nth_at h2 n h1]
  exact ⟨h1, h2, rfl⟩
theorem nth_mono {p : Nat → Bool} {n i j : Nat} (hj : j < cntB p n) (hij : i < j) : nth p n i < nth p n j := by
  obtain ⟨a1, a2, a3⟩ := nth_ok (p := p) (n := n) (j := i) (by omega)
  obtain ⟨b1, b2, b3⟩ := nth_ok hj
  rcases Nat.lt_or_ge (nth p n i) (nth p n j) with h | h
  · exact h
  · have := cntB_mn (p := p) h
    omega
theorem v_layFirst {T : TA} {N : NA} {yards seeps children hours filled tl len : Int32} {tides seepYard seepSize growth level kind childYard pace ear size yard oranges bh row : Nat → Int32} {X : Nat} (hT : okT T) (hN : okN T N 9999) (hX : X < 2 ^ 30) (h5 : cntB X.testBit (tS T) ≤ 5) (hu : ∀ s, s < tS T → X.testBit s = true → nF N s = false) (h1 : rT yards seeps children tides seepYard seepSize growth level kind childYard pace ear T) (h2 : rN hours filled tl size yard oranges T N) :
    ∃ r, F_X2_layFirstRow seeps tides growth level hours size len bh row (nI X) = some r ∧ (r.1 = nI (cntB X.testBit (tS T)) ∧ (∀ s, s < tS T → X.testBit s = true → r.2.1 s = dueS T N s) ∧ ∀ j, j < cntB X.testBit (tS T) → r.2.2 j = nI (nth X.testBit (tS T) j)) := by
  have a3 : tS T ≤ 6 := hT.2.2.1
  have q2 : seeps = nI (tS T) := h1.2.1
  unfold F_X2_layFirstRow
  refine zl4_inv (fun i x l b r => x = nI i ∧ l = nI (cntB X.testBit i) ∧ (∀ s, s < i → X.testBit s = true → b s = dueS T N s) ∧ ∀ j, j < cntB X.testBit i → r j = nI (nth X.testBit (tS T) j)) (tS T) (fun i x l b r hi hI => ?_) (fun x l b r hI k => ?_) (tS T) 0 FU _ _ _ _ (Nat.sub_zero _).symm (by omega) (by unfold FU; omega) ⟨rfl, rfl, fun s hs => by omega, fun j hj => by simp only [cntB] at hj; omega⟩
  · obtain ⟨rfl, rfl, i3, i4⟩ := hI
    have hle := cntB_mn (p := X.testBit) (show i + 1 ≤ tS T by omega)
    cases hXi : X.testBit i
    · refine ⟨nI (i + 1), nI (cntB X.testBit (i + 1)), b, r, ⟨rfl, rfl, fun s hs hx => ?_, fun j hj => i4 j (by rw [cntB_f hXi] at hj; exact hj)⟩, fun k => ?_⟩
      · by_cases e : s = i
        · rw [e, hXi] at hx; cases hx
        · exact i3 s (by omega) hx
      · rw [cntB_f hXi]
        simp (disch := omega) only [q2, leN, show ¬ tS T ≤ i by omega, if_false, v_hasBit, hXi, Bool.false_eq_true, zc1_e, eq00, if_true, bdE, nI_1]
    · rw [cntB_s hXi] at hle
      obtain ⟨D, hD⟩ : ∃ D, D = dueS T N i := ⟨_, rfl⟩
      have hb := v_hoursToBreak hT hN hi (hu i hi hXi) h2.1 h1.2.2.2.1 (h1.2.2.2.2.1 i hi).2.2.1 (h1.2.2.2.2.1 i hi).2.2.2 (h2.2.2.2.1 i hi)
      rw [← hD] at hb
      refine ⟨nI (i + 1), nI (cntB X.testBit (i + 1)), upd b i D, upd r (cntB X.testBit i) (nI i), ⟨rfl, rfl, fun s hs hx => ?_, fun j hj => ?_⟩, fun k => ?_⟩
      · rw [upd_at]
        by_cases e : s = i
        · rw [if_pos e, e, hD]
        · rw [if_neg e]; exact i3 s (by omega) hx
      · rw [cntB_s hXi] at hj
        rw [upd_at]
        by_cases e : j = cntB X.testBit i
        · rw [if_pos e, e, nth_at hXi _ hi]
        · rw [if_neg e]; exact i4 j (by omega)
      · rw [cntB_s hXi]
        simp (disch := omega) only [q2, leN, show ¬ tS T ≤ i by omega, if_false, v_hasBit, hXi, zc1_e, ne10, if_true, bdE, nI_1, show (5 : Int32) = nI 5 from rfl, show ¬ 5 ≤ cntB X.testBit i by omega, hb, wrN, nI_clamp]
  · obtain ⟨rfl, rfl, i3, i4⟩ := hI
    rw [if_pos (by rw [q2]; exact nI_le (Nat.le_refl _) (by omega))]
    exact ⟨_, rfl, rfl, i3, i4⟩
/-! the best row -/
def bI (w : Nat → Nat) (v : Nat) : Nat := (argm w (v - 1)).1
theorem bI_step {w : Nat → Nat} {L : Nat} (hw : ∀ y, w y < L) (v : Nat) : bI w (v + 1) = if fB w L v ≤ w v then bI w v else v := by
  cases v with
  | zero =>
    have := hw 0
    show 0 = if L ≤ w 0 then _ else 0
    rw [if_neg (by omega)]
  | succ n =>
    show (argm w (n + 1)).1 = if (argm w n).2 ≤ w (n + 1) then (argm w n).1 else n + 1
    simp only [argm]
    by_cases h : (argm w n).2 ≤ w (n + 1)
    · rw [if_pos h, if_neg (by omega)]
    · rw [if_neg h, if_pos (by omega)]
theorem argm_le (w : Nat → Nat) (n : Nat) : (argm w n).1 ≤ n := by
  induction n with
  | zero => exact Nat.le_refl _
  | succ n ih =>
    simp only [argm]
    split
    · exact Nat.le_refl _
    · omega
theorem v_bestRow {m y : Nat} {sy : Nat → Nat} {D : Nat → Int32} {ch : Nat → Nat} {seepYard bh row best : Nat → Int32} (hm : m ≤ 5) (hy : y < 24) (hc : ∀ i, i < m → ch i < 6 ∧ seepYard (ch i) = nI (sy (ch i)) ∧ sy (ch i) < 24 ∧ bh (ch i) = D (ch i)) (hmo : ∀ i j, j < m → i < j → ch i < ch j) (hr : ∀ i, i < m → row i = nI (ch i)) {w : Nat → Nat} (hw : ∀ v, v < fac m → w v = (st3 sy D (fun i => ch (Rp m v i)) y m).1) (hwl : ∀ v, w v < 6) (g : Int32) :
    ∃ r, zl5 (fun x5 x6 h7 h8 h9 ag10 => if (120 : Int32) ≤ x6 then (some (g, h7, bh, h8, h9)) else (if x5 = 0 then (some (g, h7, bh, h8, h9)) else (zc1 (F_X2_lostByRow seepYard (nI m) bh h8 (nI y)) (fun v13 => zj2 (fun h15 h16 => zc2 (F_X2_layNextRow (nI m) h8) (fun v18 g19 => bd (x6 + (1 : Int32)) (fun v21 => ag10 v18 v21 h15 g19 h16))) (fun K17 => if h7 ≤ v13 then (K17 h7 h9) else (bd (va_cpy h8 h9 0 0 5) (fun g23 => K17 v13 g23))))))) FU (1 : Int32) (0 : Int32) (6 : Int32) row best = some r ∧ (r.1 = g ∧ r.2.1 = nI (fB w 6 (fac m)) ∧ ∀ i, i < m → r.2.2.2.2 i = nI (ch (Rp m (bI w (fac m)) i))) := by
  have hfp := fac_pos m
  have hfl := fac_le hm
  refine zl5_inv (fun v x5 x6 h7 h8 h9 => x5 = (if v < fac m then (1 : Int32) else 0) ∧ x6 = nI v ∧ h7 = nI (fB w 6 v) ∧ (v < fac m → ∀ i, i < m → h8 i = nI (ch (Rp m v i))) ∧ (0 < v → ∀ i, i < m → h9 i = nI (ch (Rp m (bI w v) i)))) (fac m) (fun v x5 x6 h7 h8 h9 hv hI => ?_) (fun x5 x6 h7 h8 h9 hI k => ?_) (fac m) 0 FU _ _ _ _ _ (Nat.sub_zero _).symm (by omega) (by unfold FU; omega) ⟨by rw [if_pos hfp], rfl, rfl, fun _ i hi => by rw [hr i hi, pm_first m (by omega) i hi], fun h => by omega⟩
  · obtain ⟨rfl, rfl, rfl, i4, i5⟩ := hI
    have hv120 : v < 120 := by omega
    have i4 := i4 hv
    have hR : ∀ i, i < m → Rp m v i < m := fun i hi => pm_lt m (by omega) v hv120 hv i hi
    have hlo := v_lostByRow (f := fun i => ch (Rp m v i)) (D := D) (sy := sy) hm hy (fun i hi => ⟨i4 i hi, hc _ (hR i hi)⟩)
    rw [← hw v hv] at hlo
    obtain ⟨b1, -, b3⟩ := fAB hwl v
    have b4 := hwl v
    have hle : ∀ a b, b < m → a ≤ b → ch a ≤ ch b := fun a b hb h => by
      rcases Nat.lt_or_ge a b with h' | h'
      · exact Nat.le_of_lt (hmo a b hb h')
      · rw [show a = b by omega]; exact Nat.le_refl _
    have hnx : ∃ row', F_X2_layNextRow (nI m) h8 = some (if v + 1 < fac m then (1 : Int32) else 0, row') ∧ (v + 1 < fac m → ∀ i, i < m → row' i = nI (ch (Rp m (v + 1) i))) := by
      by_cases hl : v + 1 < fac m
      · have hm2 : 2 ≤ m := by
          rcases Nat.lt_or_ge m 2 with h | h
          · rcases (show m = 0 ∨ m = 1 by omega) with rfl | rfl
            · rw [fac] at hl; omega
            · rw [show fac 1 = 1 from by decide] at hl; omega
          · exact h
        obtain ⟨n1, n2⟩ := pm_na m (by omega) hm2 v hv120 hl
        obtain ⟨n3, n4, n5⟩ := pm_nc m (by omega) hm2 v hv120 hl
        obtain ⟨row', r1, r2⟩ := v_layNext (p := plc m v) (o := oth m v) (f := fun i => ch (Rp m v i)) hm (fun i hi => ⟨i4 i hi, by have := (hc _ (hR i hi)).1; omega⟩) n1 (hle _ _ (hR _ n1) n2) (fun j hj hj2 => hmo _ _ (hR j (by omega)) (pm_nb (by omega) hm2 hv120 hl hj hj2)) n3 n4 (hle _ _ (hR _ n4) n5) (fun j hj hj2 => hmo _ _ (hR _ (by omega)) (pm_nd (by omega) hm2 hv120 hl hj2 hj))
        refine ⟨row', by rw [if_pos hl]; exact r1, fun _ i hi => ?_⟩
        rw [r2 i hi, pm_ne m (by omega) hm2 v hv120 hl i hi]
        congr 1
        unfold nxF swF
        split
        · split
          · rfl
          · split <;> rfl
        · split
          · rfl
          · split <;> rfl
      · have e : v = fac m - 1 := by omega
        refine ⟨h8, ?_, fun h => absurd h hl⟩
        rw [if_neg hl]
        refine v_layLast (f := fun i => ch (Rp m v i)) hm (fun i hi => ⟨i4 i hi, by have := (hc _ (hR i hi)).1; omega⟩) (fun j hj => hmo _ _ (hR j (by omega)) ?_)
        rw [e]; exact pm_last m (by omega) j (by omega) hj
    obtain ⟨row', r1, r2⟩ := hnx
    by_cases hk : fB w 6 v ≤ w v
    · have hv0 : 0 < v := by
        rcases Nat.eq_zero_or_pos v with h | h
        · subst h
          have : fB w 6 0 = 6 := rfl
          omega
        · exact h
      refine ⟨_, nI (v + 1), nI (fB w 6 (v + 1)), row', h9, ⟨rfl, rfl, rfl, r2, fun _ i hi => ?_⟩, fun k => ?_⟩
      · rw [bI_step hwl v, if_pos hk]; exact i5 hv0 i hi
      · rw [b3, if_pos hk]
        simp (disch := omega) only [show (120 : Int32) = nI 120 from rfl, leN, show ¬ 120 ≤ v by omega, if_false, if_pos hv, ne10, hlo, zc1_e, zj2, hk, if_true, r1, zc2_e, bdE, nI_1]
    · refine ⟨_, nI (v + 1), nI (fB w 6 (v + 1)), row', va_cpy h8 h9 0 0 5, ⟨rfl, rfl, rfl, r2, fun _ i hi => ?_⟩, fun k => ?_⟩
      · rw [bI_step hwl v, if_neg hk, cpyE (by omega)]; exact i4 i hi
      · rw [b3, if_neg hk]
        simp (disch := omega) only [show (120 : Int32) = nI 120 from rfl, leN, show ¬ 120 ≤ v by omega, if_false, if_pos hv, ne10, hlo, zc1_e, zj2, hk, r1, zc2_e, bdE, nI_1]
  · obtain ⟨rfl, rfl, rfl, i4, i5⟩ := hI
    refine ⟨(g, nI (fB w 6 (fac m)), bh, h8, h9), ?_, rfl, rfl, i5 hfp⟩
    rw [if_neg (Nat.lt_irrefl (fac m))]
    simp only [eq00, if_true, ite_self]
theorem bitsN_self {S X : Nat} (h : X < 2 ^ S) : bitsN S X.testBit = X := by
  apply Nat.eq_of_testBit_eq
  intro i
  rw [bitsN_test]
  by_cases e : i < S
  · simp [e]
  · rw [Nat.testBit_lt_two_pow (Nat.lt_of_lt_of_le h (Nat.pow_le_pow_right (by omega) (by omega)))]; simp
theorem m_best {m y : Nat} {sy : Nat → Nat} {D : Nat → Int32} {ch : Nat → Nat} {mseeps dues chosen : Nat → Int32} (hm : m ≤ 5) (hy : y < 24) (hc : ∀ i, i < m → chosen i = nI (ch i) ∧ ch i < 6 ∧ mseeps (3 * ch i) = nI (sy (ch i)) ∧ sy (ch i) < 24 ∧ dues (ch i) = D (ch i)) {w : Nat → Nat} (hw : ∀ v, v < fac m → w v = (st3 sy D (fun i => ch (Rp m v i)) y m).1) (hwl : ∀ v, w v < 6) {β : Type} (K : Int32 → Int32 → Option β) :
    zl3 (fun x23 x24 x25 ag26 => if nI (fac m) ≤ x25 then (K x23 x24) else (zc1 (F_X9_lostBy (nI m) mseeps chosen dues x25 (nI y)) (fun v32 => zj1 (fun y34 => if x24 ≤ v32 then (bd (x25 + (1 : Int32)) (fun v37 => ag26 y34 x24 v37)) else (bd (x25 + (1 : Int32)) (fun v38 => ag26 y34 v32 v38))) (fun K35 => if x24 ≤ v32 then (K35 x23) else (K35 x25))))) FU (0 : Int32) (99 : Int32) (0 : Int32) = K (nI (bI w (fac m))) (nI (fB w 99 (fac m))) := by
  have hfl := fac_le hm
  have hwl2 : ∀ v, w v < 99 := fun v => by have := hwl v; omega
  rw [show (99 : Int32) = nI (fB w 99 0) from rfl]
  refine zl3_for (fun v => nI (bI w v)) (fun v => nI (fB w 99 v)) (fun v => nI v) (fac m) (fun v hv k => ?_) (fun k => ?_) (fac m) 0 FU (Nat.sub_zero _).symm (by omega) (by unfold FU; omega)
  · obtain ⟨b1, -, b3⟩ := fAB hwl2 v
    have b4 := hwl v
    have hlo := m_lostBy (D := D) (sy := sy) (ch := ch) hm hy hv hc
    rw [← hw v hv] at hlo
    rw [b3, bI_step hwl2 v]
    by_cases hk : fB w 99 v ≤ w v
    · simp (disch := omega) only [leN, show ¬ fac m ≤ v by omega, if_false, hlo, zc1_e, zj1, hk, if_true, bdE, nI_1]
    · simp (disch := omega) only [leN, show ¬ fac m ≤ v by omega, if_false, hlo, zc1_e, zj1, hk, bdE, nI_1]
  · rw [if_pos (nI_le (Nat.le_refl _) (by omega))]
theorem fB_pos {w : Nat → Nat} {L M n : Nat} (h : 0 < n) : fB w L n = fB w M n := by
  unfold fB; rw [if_neg (by omega), if_neg (by omega)]
