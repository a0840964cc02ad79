/-! ===== erase, tide, seep, keep, back ===== -/
theorem b_tide {T : TA} {tides mt : Nat → Int32} {p : Int32} (h1 : ∀ h, h < 12 → tides h = nI (tTd T h)) (h2 : ∀ h, h < 12 → mt h = nI (tTd T h)) : ∃ r, F_X8_tide tides p = some r ∧ F_X9_tide mt p = some r := by
  unfold F_X8_tide F_X9_tide
  rw [v_isWithin, W0', W11, v_in, zc1_e, zc1_e]
  by_cases hc : (0 : Int32) ≤ p ∧ p ≤ (11 : Int32)
  · obtain ⟨n, n1, n2, rfl⟩ := inNat (a := 0) (b := 11) (by omega) hc (by omega)
    rw [if_pos hc]
    have e : n % 12 = n := Nat.mod_eq_of_lt (by omega)
    simp (disch := omega) only [v_tideAt (show n < 2 ^ 31 by omega) h1, e, h2 n (by omega), zj0, zj1, zj2, zj3, zj4, zj9, bdE, nI_add, pk_mul, pk_sub, rdN, wrN, zc0_e, zc1_e, zc2_e, zc3_e, zc4_e, zc5_e, nI_1, nI_clamp, bzp, ne10, eq00, ne01, eq11, if_true, if_false, or0, ckZ1, ckZ0, ckZp, L2, L3, L4, L5, L6, L7, L8, L9, L10, L11, L12, L13, L18, L19, L23, L24, L32, L48, L57, L59, L76, L96, L97, L99, L100, L122, L120, L200, L999, L9999]
    exact ⟨_, rfl, rfl⟩
  · rw [if_neg hc]
    simp only [eq00, if_true]
    exact ⟨_, rfl, rfl⟩
/-- an index below a count -/
theorem ixC (p : Int32) {n : Nat} (hn : n < 2 ^ 30) : (∃ j, j < n ∧ p = nI j) ∨ (p < 0 ∨ nI n ≤ p) := by
  rcases pk_ix p (n := n) (by omega) with h | h | ⟨j, h1, h2⟩
  · exact Or.inr (Or.inl h)
  · exact Or.inr (Or.inr h)
  · exact Or.inl ⟨j, h1, h2⟩
theorem lowIn {n : Nat} (hn : n < 2 ^ 30) {p : Int32} (h : p < 0 ∨ nI n ≤ p) : ¬ ((0 : Int32) ≤ p ∧ p ≤ nI n - 1) := by
  rintro ⟨h1, h2⟩
  have e : (nI n - 1).toInt = (n : Int) - 1 := by
    rw [l1]; exact pk_sub_toInt hn (by omega)
  rw [fa_le, e] at h2
  rw [fa_le, Int32.toInt_zero] at h1
  rcases h with h | h
  · rw [fa_lt, Int32.toInt_zero] at h; omega
  · rw [fa_le, nI_toInt (by omega)] at h; omega
theorem lowOk {n j : Nat} (hn : n < 2 ^ 30) (hj : j < n) : (0 : Int32) ≤ nI j ∧ nI j ≤ nI n - 1 := by
  refine ⟨nI_pos' (by omega), ?_⟩
  have e : (nI n - 1).toInt = (n : Int) - 1 := by
    rw [l1]; exact pk_sub_toInt hn (by omega)
  rw [fa_le, e, nI_toInt (by omega)]
  omega
theorem v_hasIx {F : Int32 → Int32 → Option Int32} (hF : ∀ a p, F a p = if p < 0 then (some (0 : Int32)) else (if a ≤ p then (some (0 : Int32)) else (some (1 : Int32)))) {n : Nat} (hn : n < 2 ^ 30) : (∀ j, j < n → F (nI n) (nI j) = some 1) ∧ ∀ p, (p < 0 ∨ nI n ≤ p) → F (nI n) p = some 0 := by
  refine ⟨fun j hj => ?_, fun p hp => ?_⟩
  · rw [hF, if_neg (nI_pos (by omega)), if_neg (nI_ge hj (by omega))]
  · rw [hF]
    by_cases h : p < 0
    · rw [if_pos h]
    · rw [if_neg h, if_pos (hp.resolve_left h)]
theorem v_isIx {F : Int32 → Int32 → Option Int32} (hF : ∀ a p, F a p = bd ((a - (1 : Int32)).toInt64) (fun v1 => zc1 (F_X9_in (p.toInt64) (0 : Int64) v1) (fun v2 => ckZ v2 (some v2)))) {n : Nat} (hn : n < 2 ^ 30) : (∀ j, j < n → F (nI n) (nI j) = some 1) ∧ ∀ p, (p < 0 ∨ nI n ≤ p) → F (nI n) p = some 0 := by
  refine ⟨fun j hj => ?_, fun p hp => ?_⟩
  · rw [hF, bdE, W0', v_in, zc1_e, ckZp, if_pos (lowOk hn hj)]
  · rw [hF, bdE, W0', v_in, zc1_e, ckZp, if_neg (lowIn hn hp)]
theorem hasSeep_ix {n : Nat} (hn : n < 2 ^ 30) : (∀ j, j < n → F_X7_hasSeep (nI n) (nI j) = some 1) ∧ ∀ p, (p < 0 ∨ nI n ≤ p) → F_X7_hasSeep (nI n) p = some 0 := v_hasIx (fun _ _ => rfl) hn
theorem hasChild_ix {n : Nat} (hn : n < 2 ^ 30) : (∀ j, j < n → F_X7_hasChild (nI n) (nI j) = some 1) ∧ ∀ p, (p < 0 ∨ nI n ≤ p) → F_X7_hasChild (nI n) p = some 0 := v_hasIx (fun _ _ => rfl) hn
theorem hasYard_ix {n : Nat} (hn : n < 2 ^ 30) : (∀ j, j < n → F_X7_hasYard (nI n) (nI j) = some 1) ∧ ∀ p, (p < 0 ∨ nI n ≤ p) → F_X7_hasYard (nI n) p = some 0 := v_hasIx (fun _ _ => rfl) hn
theorem isSeep_ix {n : Nat} (hn : n < 2 ^ 30) : (∀ j, j < n → F_X9_isSeep (nI n) (nI j) = some 1) ∧ ∀ p, (p < 0 ∨ nI n ≤ p) → F_X9_isSeep (nI n) p = some 0 := v_isIx (fun _ _ => rfl) hn
theorem isChild_ix {n : Nat} (hn : n < 2 ^ 30) : (∀ j, j < n → F_X9_isChild (nI n) (nI j) = some 1) ∧ ∀ p, (p < 0 ∨ nI n ≤ p) → F_X9_isChild (nI n) p = some 0 := v_isIx (fun _ _ => rfl) hn
theorem isYard_ix {n : Nat} (hn : n < 2 ^ 30) : (∀ j, j < n → F_X9_isYard (nI n) (nI j) = some 1) ∧ ∀ p, (p < 0 ∨ nI n ≤ p) → F_X9_isYard (nI n) p = some 0 := v_isIx (fun _ _ => rfl) hn
theorem b_seep {T : TA} {N : NA} {yards seeps children hours filled tl : Int32} {tides seepYard seepSize growth level kind childYard pace ear size yard oranges : Nat → Int32} {p1 p2 : Int32} (hT : okT T) (h1 : rT yards seeps children tides seepYard seepSize growth level kind childYard pace ear T) (h2 : rN hours filled tl size yard oranges T N)
    {my ms mc : Int32} {row mt mseeps mk mp me : Nat → Int32} (h3 : mT my ms mc row mt mseeps mk mp me T) (h4 : mN 0 row T N) : ∃ r, F_X8_seep seeps seepYard growth level filled size p1 p2 = some r ∧ F_X9_seep ms row mseeps p1 p2 = some r := by
  have a3 : tS T ≤ 6 := hT.2.2.1
  obtain ⟨q1, q2, q3, q4, q5, q6⟩ := h1
  obtain ⟨w1, w2, w3, w4, w5, w6⟩ := h3
  have hb := bitsN_31 (n := tS T) (p := nF N) (by omega)
  have hsz : tS T < 2 ^ 30 := by omega
  unfold F_X8_seep F_X9_seep
  rw [q2, w2]
  rcases ixC p1 hsz with ⟨s, hs, rfl⟩ | ho
  · rw [(hasSeep_ix hsz).1 s hs, (isSeep_ix hsz).1 s hs]
    obtain ⟨e1, e2, e3, e4⟩ := q5 s hs
    obtain ⟨f1, f2, f3, f4⟩ := w5 s hs
    have g1 := h2.2.2.2.1 s hs
    have g2 := h4.2.2.2.1 s hs
    have g3 : row 6 = nI (bitsN (tS T) (nF N)) := by have := h4.2.1; rwa [Nat.zero_add] at this
    rw [Nat.zero_add] at g2
    have g4 : filled = nI (bitsN (tS T) (nF N)) := h2.2.1
    simp (disch := omega) only [zc1_e, ne10, if_false, show (3 : Int32) * nI s = nI (3 * s) from by rw [show (3 : Int32) = nI 3 from rfl, pk_mul], show nI (3 * s) + (2 : Int32) = nI (3 * s + 2) from by rw [show (2 : Int32) = nI 2 from rfl, nI_add], nI_1, rdN, e1, e3, e4, f1, f3, f4, g1, g2, g4, show rd 95 row (6 : Int32) = rd 95 row (nI 6) from rfl, g3, v_isFilled, hasN]
    split
    · exact ⟨_, rfl, rfl⟩
    · split
      · exact ⟨_, rfl, rfl⟩
      · split
        · exact ⟨_, rfl, rfl⟩
        · split
          · exact ⟨_, rfl, rfl⟩
          · split
            · refine ⟨_, ?_, rfl⟩
              cases (bitsN (tS T) (nF N)).testBit s <;> rfl
            · exact ⟨_, rfl, rfl⟩
  · rw [(hasSeep_ix hsz).2 p1 ho, (isSeep_ix hsz).2 p1 ho]
    exact ⟨_, rfl, rfl⟩
theorem m_copy {row : Nat → Int32} {a b : Nat} (ha : a ≤ 76) (hb : b ≤ 76) (hd : a + 19 ≤ b ∨ b + 19 ≤ a) : ∃ r, F_X9_copy row (nI a) (nI b) = some r ∧ (∀ k, k < 19 → r (b + k) = row (a + k)) ∧ ∀ j, (j < b ∨ b + 19 ≤ j) → r j = row j := by
  unfold F_X9_copy
  refine zl2_inv (fun i x y => x = nI i ∧ (∀ k, k < i → y (b + k) = row (a + k)) ∧ ∀ j, (j < b ∨ b + i ≤ j) → y j = row j) 19 (fun i x y hi hI => ?_) (fun x y hI k => ?_) 19 0 FU _ _ rfl (by omega) (by unfold FU; omega) ⟨rfl, fun k hk => by omega, fun _ _ => rfl⟩
  · obtain ⟨rfl, i2, i3⟩ := hI
    refine ⟨nI (i + 1), upd y (b + i) (row (a + i)), ⟨rfl, fun k hk => ?_, fun j hj => ?_⟩, fun k => ?_⟩
    · rw [upd_at]
      by_cases e : k = i
      · subst e; rw [if_pos rfl]
      · rw [if_neg (by omega)]; exact i2 k (by omega)
    · rw [upd_at, if_neg (by omega)]; exact i3 j (by omega)
    · have e := i3 (a + i) (by omega)
      simp (disch := omega) only [leN, show ¬ 19 ≤ i by omega, e, zj0, zj1, zj2, zj3, zj4, zj9, bdE, nI_add, pk_mul, pk_sub, rdN, wrN, zc0_e, zc1_e, zc2_e, zc3_e, zc4_e, zc5_e, nI_1, nI_clamp, bzp, ne10, eq00, ne01, eq11, if_true, if_false, or0, ckZ1, ckZ0, ckZp, L2, L3, L4, L5, L6, L7, L8, L9, L10, L11, L12, L13, L18, L19, L23, L24, L32, L48, L57, L59, L76, L96, L97, L99, L100, L122, L120, L200, L999, L9999]
  · obtain ⟨rfl, i2, i3⟩ := hI
    simp (disch := omega) only [leN, Nat.le_refl, zj0, zj1, zj2, zj3, zj4, zj9, bdE, nI_add, pk_mul, pk_sub, rdN, wrN, zc0_e, zc1_e, zc2_e, zc3_e, zc4_e, zc5_e, nI_1, nI_clamp, bzp, ne10, eq00, ne01, eq11, if_true, if_false, or0, ckZ1, ckZ0, ckZp, L2, L3, L4, L5, L6, L7, L8, L9, L10, L11, L12, L13, L18, L19, L23, L24, L32, L48, L57, L59, L76, L96, L97, L99, L100, L122, L120, L200, L999, L9999]
    exact ⟨_, rfl, i2, i3⟩
theorem mN_copy {T : TA} {N : NA} {row r : Nat → Int32} {a b : Nat} (hT : okT T) (h : mN a row T N) (hk : ∀ k, k < 19 → r (b + k) = row (a + k)) : mN b r T N := by
  have a3 : tS T ≤ 6 := hT.2.2.1
  have a4 : tC T ≤ 5 := hT.2.2.2.1
  obtain ⟨p1, p2, p3, p4, p5⟩ := h
  refine ⟨by rw [hk 18 (by omega)]; exact p1, by rw [hk 6 (by omega)]; exact p2, by rw [hk 12 (by omega)]; exact p3, fun s hs => by rw [hk s (by omega)]; exact p4 s hs, fun c hc => ⟨?_, ?_⟩⟩
  · have := hk (7 + c) (by omega)
    rw [← Nat.add_assoc, ← Nat.add_assoc] at this
    rw [this]; exact (p5 c hc).1
  · have := hk (13 + c) (by omega)
    rw [← Nat.add_assoc, ← Nat.add_assoc] at this
    rw [this]; exact (p5 c hc).2
theorem mN_keep {T : TA} {N : NA} {row r : Nat → Int32} {a : Nat} (hT : okT T) (h : mN a row T N) (hk : ∀ j, a ≤ j → j < a + 19 → r j = row j) : mN a r T N := mN_copy hT h (fun k hk' => hk _ (by omega) (by omega))
theorem mT_keep {T : TA} {y s c : Int32} {row r td sp kd pc er : Nat → Int32} (hT : okT T) (h : mT y s c row td sp kd pc er T) (hk : ∀ j, 76 ≤ j → r j = row j) : mT y s c r td sp kd pc er T := by
  obtain ⟨w1, w2, w3, w4, w5, w6⟩ := h
  exact ⟨w1, w2, w3, w4, fun s hs => ⟨(w5 s hs).1, by rw [hk _ (by omega)]; exact (w5 s hs).2.1, (w5 s hs).2.2⟩, fun c hc => ⟨(w6 c hc).1, by rw [hk _ (by omega)]; exact (w6 c hc).2.1, (w6 c hc).2.2⟩⟩
theorem cpyE {f g : Nat → Int32} {n j : Nat} (h : j < n) : va_cpy f g 0 0 n j = f j := by
  have := pk_cpy_in (f := f) (g := g) (sp := 0) (dp := 0) (n := n) (j := j) (by omega) (by omega)
  rw [this]; congr 1; omega
theorem v_copyN {T : TA} {N : NA} {h1 f1 t1 h2 f2 t2 : Int32} {s1 y1 o1 s2 y2 o2 : Nat → Int32} (hT : okT T) (h : rN h2 f2 t2 s2 y2 o2 T N) : ∃ s' y' o', F_X3_copyFrom h1 f1 t1 s1 y1 o1 h2 f2 t2 s2 y2 o2 = some (h2, f2, t2, s', y', o') ∧ rN h2 f2 t2 s' y' o' T N := by
  have a3 : tS T ≤ 6 := hT.2.2.1
  have a4 : tC T ≤ 5 := hT.2.2.2.1
  obtain ⟨p1, p2, p3, p4, p5⟩ := h
  exact ⟨_, _, _, rfl, p1, p2, p3, fun s hs => by rw [cpyE (by omega)]; exact p4 s hs, fun c hc => ⟨by rw [cpyE (by omega)]; exact (p5 c hc).1, by rw [cpyE (by omega)]; exact (p5 c hc).2⟩⟩
/-- what is kept -/
def kR (kb : Int32) (kh kf kt : Int32) (ks ky ko : Nat → Int32) (jh jf jt : Int32) (js jy jo : Nat → Int32) (isK row : Nat → Int32) (T : TA) (K : Nat) (N0 N1 : NA) : Prop :=
  kb = nI K ∧ K < 4 ∧ isK 0 = (if K.testBit 0 then 1 else 0) ∧ isK 1 = (if K.testBit 1 then 1 else 0) ∧ (K.testBit 0 = true → okN T N0 9999 ∧ rN kh kf kt ks ky ko T N0 ∧ mN 19 row T N0) ∧ (K.testBit 1 = true → okN T N1 9999 ∧ rN jh jf jt js jy jo T N1 ∧ mN 38 row T N1)
theorem b_keep {T : TA} {N N0 N1 : NA} {K : Nat} {kb hours filled tl kh kf kt jh jf jt : Int32} {size yard oranges ks ky ko js jy jo isK row : Nat → Int32} {p : Int32} (hT : okT T) (hN : okN T N 9999) (h2 : rN hours filled tl size yard oranges T N) (h4 : mN 0 row T N) (hK : kR kb kh kf kt ks ky ko jh jf jt js jy jo isK row T K N0 N1) :
    ∃ r kb' kh' kf' kt' ks' ky' ko' jh' jf' jt' js' jy' jo' row' isK' K' N0' N1', F_X8_keep kb hours filled tl size yard oranges kh kf kt ks ky ko jh jf jt js jy jo p = some (r, kb', kh', kf', kt', ks', ky', ko', jh', jf', jt', js', jy', jo') ∧ F_X9_keep row isK p = some (r, row', isK') ∧ kR kb' kh' kf' kt' ks' ky' ko' jh' jf' jt' js' jy' jo' isK' row' T K' N0' N1' ∧ (∀ j, (j < 19 ∨ 57 ≤ j) → row' j = row j) := by
  have hK0 := hK
  obtain ⟨k1, k2, k3, k4, k5, k6⟩ := hK
  unfold F_X8_keep F_X9_keep
  rw [v_isWithin, W0', W1, v_in, zc1_e, zc1_e]
  by_cases hc : (0 : Int32) ≤ p ∧ p ≤ (1 : Int32)
  · obtain ⟨n, n1, n2, rfl⟩ := inNat (a := 0) (b := 1) (by omega) hc (by omega)
    rw [if_pos hc]
    have hr : row 18 = nI (nH N) := by have := h4.1; rwa [Nat.zero_add] at this
    have hor : ∀ n, n < 2 → K < 4 → (K ||| 2 ^ n) < 4 := by
      intro n hn hK
      exact Nat.or_lt_two_pow (n := 2) hK (Nat.pow_lt_pow_right (by omega) hn)
    obtain ⟨s', y', o', c1, c2⟩ := v_copyN (h1 := kh) (f1 := kf) (t1 := kt) (s1 := ks) (y1 := ky) (o1 := ko) hT h2
    obtain ⟨s2, y2, o2, d1, d2⟩ := v_copyN (h1 := jh) (f1 := jf) (t1 := jt) (s1 := js) (y1 := jy) (o1 := jo) hT h2
    have t11 : Nat.testBit 1 1 = false := by decide
    have t10 : Nat.testBit 1 0 = true := by decide
    have t21 : Nat.testBit 2 1 = true := by decide
    have t20 : Nat.testBit 2 0 = false := by decide
    have nb : vp_nar .boolean (1 : Int32) = 1 := rfl
    rcases (show n = 0 ∨ n = 1 by omega) with rfl | rfl
    · obtain ⟨r, r1, r2, r3⟩ := m_copy (row := row) (a := 0) (b := 19) (by omega) (by omega) (by omega)
      have r1 : F_X9_copy row (0 : Int32) (nI 19) = some r := r1
      have e18 : r 18 = row 18 := r3 18 (by omega)
      have hm : (19 : Int32) * ((1 : Int32) + nI 0) = nI 19 := by decide
      have hkn : F_X8_keptNight_0 (nI 0) = some () := rfl
      have e0 : (nI 0 = (0 : Int32)) = True := eq_true rfl
      simp (disch := omega) only [ne10, if_false, e0, if_true, hkn, zc0_e, c1, zc6_e, hm, r1, zc1_e, bdE, wrN, rdN, show rd 95 r (18 : Int32) = rd 95 r (nI 18) from rfl, e18, hr, k1, shl1 (show 0 < 31 by omega), fa_or, nI_clamp]
      refine ⟨nI (nH N), _, _, _, _, _, _, _, _, _, _, _, _, _, r, _, K ||| 1, N, N1, by rw [h2.1], rfl, ⟨rfl, hor 0 (by omega) k2, ?_, ?_, fun _ => ⟨hN, c2, mN_copy hT h4 (fun k hk => by rw [r2 k hk])⟩, fun h => ?_⟩, fun j hj => r3 j (by omega)⟩
      · rw [upd_at, if_pos rfl, Nat.testBit_or, t10]; simp [nb]
      · rw [upd_at, if_neg (by omega), k4, Nat.testBit_or, t11]; simp
      · have h' : K.testBit 1 = true := by rw [Nat.testBit_or, t11] at h; simpa using h
        obtain ⟨u1, u2, u3⟩ := k6 h'
        exact ⟨u1, u2, mN_keep hT u3 (fun j h1 h2 => r3 j (by omega))⟩
    · obtain ⟨r, r1, r2, r3⟩ := m_copy (row := row) (a := 0) (b := 38) (by omega) (by omega) (by omega)
      have r1 : F_X9_copy row (0 : Int32) (nI 38) = some r := r1
      have e18 : r 18 = row 18 := r3 18 (by omega)
      have hm : (19 : Int32) * ((1 : Int32) + nI 1) = nI 38 := by decide
      have hkn : F_X8_keptNight_1 (nI 1) = some () := rfl
      have e0 : (nI 1 = (0 : Int32)) = False := eq_false (by decide)
      simp (disch := omega) only [ne10, if_false, e0, if_true, hkn, zc0_e, d1, zc6_e, hm, r1, zc1_e, bdE, wrN, rdN, show rd 95 r (18 : Int32) = rd 95 r (nI 18) from rfl, e18, hr, k1, shl1 (show 1 < 31 by omega), fa_or, nI_clamp]
      refine ⟨nI (nH N), _, _, _, _, _, _, _, _, _, _, _, _, _, r, _, K ||| 2, N0, N, by rw [h2.1], rfl, ⟨rfl, hor 1 (by omega) k2, ?_, ?_, fun h => ?_, fun _ => ⟨hN, d2, mN_copy hT h4 (fun k hk => by rw [r2 k hk])⟩⟩, fun j hj => r3 j (by omega)⟩
      · rw [upd_at, if_neg (by omega), k3, Nat.testBit_or, t20]; simp
      · rw [upd_at, if_pos rfl, Nat.testBit_or, t21]; simp [nb]
      · have h' : K.testBit 0 = true := by rw [Nat.testBit_or, t20] at h; simpa using h
        obtain ⟨u1, u2, u3⟩ := k5 h'
        exact ⟨u1, u2, mN_keep hT u3 (fun j h1 h2 => r3 j (by omega))⟩
  · rw [if_neg hc]
    simp only [eq00, if_true]
    exact ⟨_, _, _, _, _, _, _, _, _, _, _, _, _, _, row, isK, K, N0, N1, rfl, rfl, hK0, fun _ _ => rfl⟩
theorem b_back {T : TA} {N N0 N1 : NA} {K : Nat} {kb hours filled tl kh kf kt jh jf jt : Int32} {size yard oranges ks ky ko js jy jo isK row : Nat → Int32} {p : Int32} (hT : okT T) (hN : okN T N 9999) (h2 : rN hours filled tl size yard oranges T N) (h4 : mN 0 row T N) (hK : kR kb kh kf kt ks ky ko jh jf jt js jy jo isK row T K N0 N1) :
    ∃ r h' f' t' z' y' o' row' N', F_X8_back kb hours filled tl size yard oranges kh kf kt ks ky ko jh jf jt js jy jo p = some (r, h', f', t', z', y', o') ∧ F_X9_back row isK p = some (r, row') ∧ okN T N' 9999 ∧ rN h' f' t' z' y' o' T N' ∧ mN 0 row' T N' ∧ (∀ j, 19 ≤ j → row' j = row j) := by
  have hK0 := hK
  obtain ⟨k1, k2, k3, k4, k5, k6⟩ := hK
  unfold F_X8_back F_X9_back
  rw [v_isWithin, W0', W1, v_in, zc1_e, zc1_e]
  by_cases hc : (0 : Int32) ≤ p ∧ p ≤ (1 : Int32)
  · obtain ⟨n, n1, n2, rfl⟩ := inNat (a := 0) (b := 1) (by omega) hc (by omega)
    rw [if_pos hc, k1, v_hasBit (by omega) (by omega)]
    rcases (show n = 0 ∨ n = 1 by omega) with rfl | rfl
    · simp (disch := omega) only [ne10, if_false, zc1_e, rdN, k3]
      cases hb : K.testBit 0
      · simp only [Bool.false_eq_true, if_false, eq00, if_true]
        exact ⟨_, _, _, _, _, _, _, row, N, rfl, rfl, hN, h2, h4, fun _ _ => rfl⟩
      · obtain ⟨u1, u2, u3⟩ := k5 hb
        obtain ⟨r, r1, r2, r3⟩ := m_copy (row := row) (a := 19) (b := 0) (by omega) (by omega) (by omega)
        have hm : (19 : Int32) * ((1 : Int32) + nI 0) = nI 19 := by decide
        have r1 : F_X9_copy row (nI 19) (0 : Int32) = some r := r1
        obtain ⟨s', y', o', c1, c2⟩ := v_copyN (h1 := hours) (f1 := filled) (t1 := tl) (s1 := size) (y1 := yard) (o1 := oranges) hT u2
        have hkn : F_X8_keptNight_0 (nI 0) = some () := rfl
        have e0 : (nI 0 = (0 : Int32)) = True := eq_true rfl
        have m0 : mN 0 r T N0 := mN_copy hT u3 (fun k hk => r2 k hk)
        have e18 : r 18 = nI (nH N0) := by have := m0.1; rwa [Nat.zero_add] at this
        simp (disch := omega) only [if_true, ne10, if_false, e0, hkn, zc0_e, c1, zc6_e, hm, r1, zc1_e, show rd 95 r (18 : Int32) = rd 95 r (nI 18) from rfl, rdN, e18]
        exact ⟨nI (nH N0), _, _, _, _, _, _, r, N0, by rw [u2.1], rfl, u1, by rw [← u2.1]; exact c2, m0, fun j hj => r3 j (by omega)⟩
    · simp (disch := omega) only [ne10, if_false, zc1_e, rdN, k4]
      cases hb : K.testBit 1
      · simp only [Bool.false_eq_true, if_false, eq00, if_true]
        exact ⟨_, _, _, _, _, _, _, row, N, rfl, rfl, hN, h2, h4, fun _ _ => rfl⟩
      · obtain ⟨u1, u2, u3⟩ := k6 hb
        obtain ⟨r, r1, r2, r3⟩ := m_copy (row := row) (a := 38) (b := 0) (by omega) (by omega) (by omega)
        have hm : (19 : Int32) * ((1 : Int32) + nI 1) = nI 38 := by decide
        have r1 : F_X9_copy row (nI 38) (0 : Int32) = some r := r1
        obtain ⟨s', y', o', c1, c2⟩ := v_copyN (h1 := hours) (f1 := filled) (t1 := tl) (s1 := size) (y1 := yard) (o1 := oranges) hT u2
        have hkn : F_X8_keptNight_1 (nI 1) = some () := rfl
        have e0 : (nI 1 = (0 : Int32)) = False := eq_false (by decide)
        have m0 : mN 0 r T N1 := mN_copy hT u3 (fun k hk => r2 k hk)
        have e18 : r 18 = nI (nH N1) := by have := m0.1; rwa [Nat.zero_add] at this
        simp (disch := omega) only [if_true, ne10, if_false, e0, hkn, zc0_e, c1, zc6_e, hm, r1, zc1_e, show rd 95 r (18 : Int32) = rd 95 r (nI 18) from rfl, rdN, e18]
        exact ⟨nI (nH N1), _, _, _, _, _, _, r, N1, by rw [u2.1], rfl, u1, by rw [← u2.1]; exact c2, m0, fun j hj => r3 j (by omega)⟩
  · rw [if_neg hc]
    simp only [eq00, if_true]
    exact ⟨_, _, _, _, _, _, _, row, N, rfl, rfl, hN, h2, h4, fun _ _ => rfl⟩
