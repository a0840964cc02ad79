/-! ===== order, alike ===== -/
theorem b_order {T : TA} {N : NA} {yards seeps children hours filled tl len few : Int32} {tides seepYard seepSize growth level kind childYard pace ear size yard oranges ebh erow ebest : Nat → Int32} {p1 p2 p3 : Int32} (hT : okT T) (hN : okN T N 9999) (h1 : rT yards seeps children tides seepYard seepSize growth level kind childYard pace ear T) (h2 : rN hours filled tl size yard oranges T N)
    {my ms mc cm : Int32} {row mt mseeps mk mp me chosen dues : Nat → Int32} (h3 : mT my ms mc row mt mseeps mk mp me T) (h4 : mN 0 row T N) :
    ∃ r b cm' row' b', F_X8_order yards seeps tides seepYard growth level hours filled size len few ebh erow ebest p1 p2 p3 = some (r, b) ∧ F_X9_order my ms mc cm row mt mseeps mp chosen dues p1 p2 p3 = some (r, cm', row', b') ∧ ∀ j, (j < 57 ∨ 76 ≤ j) → row' j = row j := by
  have a2 : tY T ≤ 24 := hT.2.1
  have a3 : tS T ≤ 6 := hT.2.2.1
  have hsz : tY T < 2 ^ 30 := by omega
  have hpw : 2 ^ tS T ≤ 2 ^ 6 := Nat.pow_le_pow_right (by omega) a3
  have hpos := Nat.two_pow_pos (tS T)
  have q1 : yards = nI (tY T) := h1.1
  have q2 : seeps = nI (tS T) := h1.2.1
  have w1 : my = nI (tY T) := h3.1
  have w2 : ms = nI (tS T) := h3.2.1
  have k0 : ∀ p, F_X7_hasSeeps seeps p = some (if (0 : Int32) ≤ p ∧ p ≤ ((1 : Int32) <<< (nI (tS T) &&& 31)) - (1 : Int32) then 1 else 0) := fun p => by
    unfold F_X7_hasSeeps
    rw [q2, v_isSetOf a3, zc1_e, ckZp]
  have hbF := bitsN_31 (n := tS T) (p := nF N) (by omega)
  have g6 : row 6 = nI (bitsN (tS T) (nF N)) := by have := h4.2.1; rwa [Nat.zero_add] at this
  unfold F_X8_order F_X9_order
  rcases ixC p1 hsz with ⟨y, hy, rfl⟩ | ho
  · have k1 : F_X7_hasYard yards (nI y) = some 1 := by rw [q1]; exact (hasYard_ix hsz).1 y hy
    have k2 : F_X9_isYard my (nI y) = some 1 := by rw [w1]; exact (isYard_ix hsz).1 y hy
    rw [k1, k2, zc1_e, zc1_e]
    simp only [ne10, if_false]
    rw [k0, zc1_e, bdE, W0', v_in, zc1_e, w2]
    by_cases hset : (0 : Int32) ≤ p2 ∧ p2 ≤ ((1 : Int32) <<< (nI (tS T) &&& 31)) - (1 : Int32)
    · rw [if_pos hset]
      simp only [ne10, if_false]
      have hc' := hset
      rw [shl1 (by omega), subN1 _ hpos] at hc'
      obtain ⟨X, -, x2, rfl⟩ := inNat (a := 0) (b := 2 ^ tS T - 1) (by omega) hc' (by omega)
      by_cases hi3 : (-1 : Int32) ≤ p3
      · rw [if_pos hi3, if_pos hi3, v_bitCount (by omega), v_bitsN (by omega), zc1_e, zc1_e]
        have hXs : X < 2 ^ tS T := by omega
        have hm24 : cntB X.testBit 24 = cntB X.testBit (tS T) := by
          have := cnt_bits (p := X.testBit) (Y := tS T) (by omega)
          rw [bitsN_self hXs] at this
          exact this
        have hml := cntB_le X.testBit (tS T)
        rw [hm24]
        by_cases h5 : 5 < cntB X.testBit (tS T)
        · have h5' : (5 : Int32) < nI (cntB X.testBit (tS T)) := nI_lt (a := 5) h5 (by omega)
          rw [if_pos h5', if_pos h5']
          exact ⟨_, _, _, row, _, rfl, rfl, fun _ _ => rfl⟩
        · have h5' : ¬ (5 : Int32) < nI (cntB X.testBit (tS T)) := by
            rw [show (5 : Int32) = nI 5 from rfl, ltN (by omega) (by omega)]; exact h5
          rw [if_neg h5', if_neg h5']
          rw [show filled = _ from h2.2.1, show rd 95 row (6 : Int32) = rd 95 row (nI 6) from rfl, rdN (by omega) (by omega), g6]
          by_cases hz : (nI X &&& nI (bitsN (tS T) (nF N))) = 0
          · rw [if_pos hz, if_pos hz]
            have hz' : X &&& bitsN (tS T) (nF N) = 0 := by
              rw [fa_and, eq0N (Nat.lt_of_le_of_lt Nat.and_le_left (by omega))] at hz
              exact hz
            have hu : ∀ s, s < tS T → X.testBit s = true → nF N s = false := fun s hs hx => by
              have := congrArg (fun n => n.testBit s) hz'
              simp only [Nat.testBit_and, hx, bitsN_test, hs, decide_true, Bool.true_and, Nat.zero_testBit] at this
              exact this
            obtain ⟨m, hm⟩ : ∃ m, m = cntB X.testBit (tS T) := ⟨_, rfl⟩
            have hm5 : m ≤ 5 := by omega
            have hfl := fac_le hm5
            have hfp := fac_pos m
            obtain ⟨ch, hch⟩ : ∃ f : Nat → Nat, f = nth X.testBit (tS T) := ⟨_, rfl⟩
            have hcho : ∀ i, i < m → ch i < tS T ∧ X.testBit (ch i) = true := fun i hi => by
              rw [hch]; rw [hm] at hi
              exact ⟨(nth_ok hi).1, (nth_ok hi).2.1⟩
            have hmo : ∀ i j, j < m → i < j → ch i < ch j := fun i j hj hij => by
              rw [hch]; rw [hm] at hj
              exact nth_mono hj hij
            have hsy : ∀ s, s < tS T → tSy T s < 24 := fun s hs => by have := (hT.2.2.2.2.2.1 s hs).1; omega
            obtain ⟨D, hD⟩ : ∃ D : Nat → Int32, D = dueS T N := ⟨_, rfl⟩
            obtain ⟨w, hw⟩ : ∃ w : Nat → Nat, w = fun v => if v < fac m then (st3 (tSy T) D (fun i => ch (Rp m v i)) y m).1 else 0 := ⟨_, rfl⟩
            have hw1 : ∀ v, v < fac m → w v = (st3 (tSy T) D (fun i => ch (Rp m v i)) y m).1 := fun v hv => by rw [hw]; exact if_pos hv
            have hw2 : ∀ v, w v < 6 := fun v => by
              rw [hw]
              show (if v < fac m then _ else 0) < 6
              split
              · next hv =>
                have := (st3_ok (sy := tSy T) (D := D) (f := fun i => ch (Rp m v i)) (m := m) (show y < 24 by omega) (fun i hi => hsy _ (hcho _ (pm_lt m (by omega) v (by omega) hv i hi)).1) m (Nat.le_refl _)).1
                omega
              · omega
            obtain ⟨⟨g1, g2, g3⟩, f1, f2, f3, f4⟩ := v_layFirst (len := len) (bh := ebh) (row := erow) hT hN (show X < 2 ^ 30 by omega) (by omega) hu h1 h2
            have f2 : g1 = nI m := by rw [hm]; exact f2
            subst f2
            obtain ⟨⟨b1, b2, b3, b4, b5⟩, e1, e2, e3, e4⟩ := v_bestRow (m := m) (y := y) (sy := tSy T) (D := D) (ch := ch) (seepYard := seepYard) (bh := g2) (row := g3) (best := ebest) hm5 (by omega) (fun i hi => ⟨by have := (hcho i hi).1; omega, (h1.2.2.2.2.1 _ (hcho i hi).1).1, hsy _ (hcho i hi).1, by rw [hD]; exact f3 _ (hcho i hi).1 (hcho i hi).2⟩) hmo (fun i hi => by rw [hch]; rw [hm] at hi; exact f4 i hi) hw1 hw2 (nI m)
            have hfind : F_X2_findBestRow seeps tides seepYard growth level hours size len few ebh erow ebest (nI y) (nI X) = some (b1, b2, b3, b4, b5) := by
              unfold F_X2_findBestRow
              rw [f1, zc3_e]; exact e1
            have e2 : b1 = nI m := e2
            have e3 : b2 = nI (fB w 6 (fac m)) := e3
            have e4 : ∀ i, i < m → b5 i = nI (ch (Rp m (bI w (fac m)) i)) := e4
            rw [hfind, zc5_e]
            have hbl : bI w (fac m) < fac m := by
              have := argm_le w (fac m - 1)
              show (argm w (fac m - 1)).1 < fac m
              omega
            have hRb : ∀ i, i < m → Rp m (bI w (fac m)) i < m := fun i hi => pm_lt m (by omega) _ (by omega) hbl i hi
            -- the reference
            have key : ∃ r, zl6 (fun x15 x16 h17 h18 h19 h20 ag21 => if nI (tS T) ≤ x16 then (zl3 (fun x23 x24 x25 ag26 => if x15 ≤ x25 then (if p3 = (-1 : Int32) then (some (x24, h17, h18, h19, h20)) else (if h17 ≤ p3 then (some ((-1 : Int32), h17, h18, h19, h20)) else (zc1 (F_X9_rowOf h17 h19 x23 p3) (fun v30 => some (v30, h17, h18, h19, h20))))) else (zc1 (F_X9_lostBy h17 mseeps h19 h20 x25 (nI y)) (fun v32 => zj1 (fun y34 => if x24 ≤ v32 then (bd (x25 + (1 : Int32)) (fun v37 => ag26 y34 x24 v37)) else (bd (x25 + (1 : Int32)) (fun v38 => ag26 y34 v32 v38))) (fun K35 => if x24 ≤ v32 then (K35 x23) else (K35 x25))))) FU (0 : Int32) (99 : Int32) (0 : Int32)) else (zc1 (F_X9_has (nI X) x16) (fun v40 => if v40 = 0 then (bd (x16 + (1 : Int32)) (fun v43 => ag21 x15 v43 h17 h18 h19 h20)) else (zc2 (F_X9_breaksIn my (nI (tS T)) mc h18 mt mseeps mp x16) (fun v44 g45 => wr 6 x16 (upd h20 (x16).toNatClampNeg v44) (fun g47 => wr 5 h17 (upd h19 (h17).toNatClampNeg x16) (fun g49 => bd (h17 + (1 : Int32)) (fun v51 => bd (x15 * v51) (fun v52 => bd (x16 + (1 : Int32)) (fun v53 => ag21 v52 v53 v51 g45 g49 g47)))))))))) FU (1 : Int32) (0 : Int32) (0 : Int32) row chosen dues = some r ∧ (r.1 = (if p3 = (-1 : Int32) then nI (fB w 6 (fac m)) else if nI m ≤ p3 then (-1 : Int32) else nI (ch (Rp m (bI w (fac m)) p3.toNatClampNeg))) ∧ ∀ j, (j < 57 ∨ 76 ≤ j) → r.2.2.1 j = row j) := by
              refine zl6_inv (fun i x15 x16 h17 h18 h19 h20 => x15 = nI (fac (cntB X.testBit i)) ∧ x16 = nI i ∧ h17 = nI (cntB X.testBit i) ∧ (∀ j, (j < 57 ∨ 76 ≤ j) → h18 j = row j) ∧ (∀ j, j < cntB X.testBit i → h19 j = nI (ch j)) ∧ ∀ s, s < i → X.testBit s = true → h20 s = D s) (tS T) (fun i x15 x16 h17 h18 h19 h20 hi hI => ?_) (fun x15 x16 h17 h18 h19 h20 hI k => ?_) (tS T) 0 FU _ _ _ _ _ _ (Nat.sub_zero _).symm (by omega) (by unfold FU; omega) ⟨rfl, rfl, rfl, fun _ _ => rfl, fun j hj => by simp only [cntB] at hj; omega, fun s hs => by omega⟩
              · obtain ⟨rfl, rfl, rfl, i4, i5, i6⟩ := hI
                have hle := cntB_mn (p := X.testBit) (show i + 1 ≤ tS T by omega)
                cases hXi : X.testBit i
                · refine ⟨nI (fac (cntB X.testBit (i + 1))), nI (i + 1), nI (cntB X.testBit (i + 1)), h18, h19, h20, ⟨rfl, rfl, rfl, i4, fun j hj => i5 j (by rw [cntB_f hXi] at hj; exact hj), fun s hs hx => ?_⟩, fun k => ?_⟩
                  · by_cases e : s = i
                    · rw [e, hXi] at hx; cases hx
                    · exact i6 s (by omega) hx
                  · rw [cntB_f hXi]
                    simp (disch := omega) only [leN, show ¬ tS T ≤ i by omega, if_false, v_has, hXi, Bool.false_eq_true, zc1_e, eq00, if_true, bdE, nI_1]
                · rw [cntB_s hXi] at hle
                  have h4z : mN 0 h18 T N := mN_keep hT h4 (fun j _ hj => i4 j (by omega))
                  obtain ⟨row1, m1, m2⟩ := m_breaksIn hT hN hi h3 h4z
                  rw [w2] at m1
                  refine ⟨nI (fac (cntB X.testBit (i + 1))), nI (i + 1), nI (cntB X.testBit (i + 1)), row1, upd h19 (cntB X.testBit i) (nI i), upd h20 i (D i), ⟨rfl, rfl, rfl, fun j hj => (m2 j hj).trans (i4 j hj), fun j hj => ?_, fun s hs hx => ?_⟩, fun k => ?_⟩
                  · rw [cntB_s hXi] at hj
                    rw [upd_at]
                    by_cases e : j = cntB X.testBit i
                    · rw [if_pos e, e, hch, nth_at hXi _ hi]
                    · rw [if_neg e]; exact i5 j (by omega)
                  · rw [upd_at]
                    by_cases e : s = i
                    · rw [if_pos e, e]
                    · rw [if_neg e]; exact i6 s (by omega) hx
                  · have hDi : D i = dueS T N i := by rw [hD]
                    rw [← hDi] at m1
                    have hfm : fac (cntB X.testBit i) * (cntB X.testBit i + 1) = fac (cntB X.testBit i + 1) := by rw [Nat.mul_comm]; simp only [fac]
                    rw [cntB_s hXi]
                    simp (disch := omega) only [leN, show ¬ tS T ≤ i by omega, if_false, v_has, hXi, zc1_e, ne10, if_true, m1, zc2_e, wrN, nI_clamp, bdE, nI_1, pk_mul, hfm]
              · obtain ⟨rfl, rfl, rfl, i4, i5, i6⟩ := hI
                rw [if_pos (nI_le (Nat.le_refl _) (by omega))]
                rw [← hm] at i5 ⊢
                rw [m_best (m := m) (y := y) (sy := tSy T) (D := D) (ch := ch) hm5 (by omega) (fun i hi => ⟨i5 i hi, by have := (hcho i hi).1; omega, (h3.2.2.2.2.1 _ (hcho i hi).1).1, hsy _ (hcho i hi).1, i6 _ (hcho i hi).1 (hcho i hi).2⟩) hw1 hw2]
                by_cases hp3 : p3 = (-1 : Int32)
                · rw [if_pos hp3, if_pos hp3]
                  exact ⟨_, rfl, (show nI (fB w 99 (fac m)) = nI (fB w 6 (fac m)) from by rw [fB_pos (L := 99) (M := 6) hfp]), i4⟩
                · rw [if_neg hp3, if_neg hp3]
                  by_cases hp4 : nI m ≤ p3
                  · rw [if_pos hp4, if_pos hp4]
                    exact ⟨_, rfl, rfl, i4⟩
                  · rw [if_neg hp4, if_neg hp4]
                    rcases iCase p3 with hneg | ⟨a, ha, rfl⟩
                    · exfalso
                      apply hp3
                      rw [fa_lt, Int32.toInt_zero] at hneg
                      rw [fa_le, show (-1 : Int32).toInt = -1 from by decide] at hi3
                      apply (fa_eq _ _).mpr
                      rw [show (-1 : Int32).toInt = -1 from by decide]
                      omega
                    · rw [leN (by omega) ha] at hp4
                      rw [m_rowOf hm5 hbl (by omega), zc1_e, i5 _ (hRb a (by omega)), nI_clamp ha]
                      exact ⟨_, rfl, rfl, i4⟩
            obtain ⟨⟨k1', k2', k3', k4', k5'⟩, u1, u2, u3⟩ := key
            have u2 : k1' = _ := u2
            rw [u1]
            by_cases hp3 : p3 = (-1 : Int32)
            · rw [if_pos hp3] at u2 ⊢
              exact ⟨_, _, k2', k3', _, rfl, by rw [u2, e3], u3⟩
            · rw [if_neg hp3] at u2 ⊢
              rcases iCase p3 with hneg | ⟨a, ha, rfl⟩
              · exfalso
                apply hp3
                rw [fa_lt, Int32.toInt_zero] at hneg
                rw [fa_le, show (-1 : Int32).toInt = -1 from by decide] at hi3
                apply (fa_eq _ _).mpr
                rw [show (-1 : Int32).toInt = -1 from by decide]
                omega
              · have hba : F_X2_bestAt b1 b5 (nI a) = some k1' := by
                  unfold F_X2_bestAt
                  rw [if_neg (nI_pos ha), e2, u2]
                  by_cases hp4 : nI m ≤ nI a
                  · rw [if_pos hp4, if_pos hp4]
                  · rw [if_neg hp4, if_neg hp4]
                    rw [leN (by omega) ha] at hp4
                    rw [rdN (by omega) (by omega), e4 a (by omega), nI_clamp ha]
                rw [hba, zc1_e]
                exact ⟨_, _, k2', k3', _, rfl, rfl, u3⟩
          · rw [if_neg hz, if_neg hz]
            exact ⟨_, _, _, row, _, rfl, rfl, fun _ _ => rfl⟩
      · rw [if_neg hi3, if_neg hi3]
        exact ⟨_, _, _, row, _, rfl, rfl, fun _ _ => rfl⟩
    · rw [if_neg hset]
      simp only [eq00, if_true]
      exact ⟨_, _, _, row, _, rfl, rfl, fun _ _ => rfl⟩
  · have k1 : F_X7_hasYard yards p1 = some 0 := by rw [q1]; exact (hasYard_ix hsz).2 p1 ho
    have k2 : F_X9_isYard my p1 = some 0 := by rw [w1]; exact (isYard_ix hsz).2 p1 ho
    rw [k1, k2]
    exact ⟨_, _, _, row, _, rfl, rfl, fun _ _ => rfl⟩
