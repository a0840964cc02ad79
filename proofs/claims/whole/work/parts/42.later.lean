/-! ===== fill, later, breaks ===== -/
theorem b_fill {T : TA} {N : NA} {yards seeps children hours filled tl : Int32} {tides seepYard seepSize growth level kind childYard pace ear size yard oranges : Nat → Int32} {p : Int32} (hT : okT T) (hN : okN T N 9999) (h1 : rT yards seeps children tides seepYard seepSize growth level kind childYard pace ear T) (h2 : rN hours filled tl size yard oranges T N)
    {my ms mc : Int32} {row mt mseeps mk mp me : Nat → Int32} (h3 : mT my ms mc row mt mseeps mk mp me T) (h4 : mN 0 row T N) :
    ∃ r f' o' row' N', F_X8_fill yards seeps children seepYard kind ear hours filled size yard oranges p = some (r, f', o') ∧ F_X9_fill my ms mc row mseeps mk me p = some (r, row') ∧ okN T N' 9999 ∧ rN hours f' tl size yard o' T N' ∧ mN 0 row' T N' ∧ ∀ j, 19 ≤ j → row' j = row j := by
  have hsz : tY T < 2 ^ 30 := by have := hT.2.1; omega
  have e1 : yards = nI (tY T) := h1.1
  have e2 : my = nI (tY T) := h3.1
  rcases ixC p hsz with ⟨y, hy, rfl⟩ | ho
  · obtain ⟨X, hXd⟩ : ∃ X : Nat → Int32, X = fun c => (F_X3_toldBy seeps seepYard kind ear hours filled yard (nI c)).getD 0 := ⟨_, rfl⟩
    have hX : ∀ c, c < tC T → F_X3_toldBy seeps seepYard kind ear hours filled yard (nI c) = some (X c) ∧ (tKd T c = 2 → X c = nI (nY N c)) ∧ (¬ tKd T c = 2 → tellR (hearN T N c).testBit (tS T) (tSy T) (nY N c) (X c)) := fun c hc => by
      obtain ⟨x, x1, x2⟩ := v_toldBy hT hN (by omega) hc h1 h2
      have e : X c = x := by rw [hXd]; show (F_X3_toldBy seeps seepYard kind ear hours filled yard (nI c)).getD 0 = x; rw [x1]; rfl
      rw [e]; exact ⟨x1, x2⟩
    have hR : ∀ c, c < tC T → (X c = -1 ∨ ∃ w, w < tY T ∧ X c = nI w) := fun c hc => by
      obtain ⟨-, x2, x3⟩ := hX c hc
      by_cases e : tKd T c = 2
      · exact Or.inr ⟨_, hN.2.2 c hc, x2 e⟩
      · rcases x3 e with ⟨u, -⟩ | ⟨w, u1, ⟨s, s1, -, s3⟩, -⟩
        · exact Or.inl u
        · exact Or.inr ⟨w, by rw [← s3]; exact (hT.2.2.2.2.2.1 s s1).1, u1⟩
    obtain ⟨f', o', g1, g2⟩ := v_fillAt hT hN (by omega) hy h1 h2 (fun c hc => ⟨(hX c hc).1, hR c hc⟩)
    obtain ⟨row', g3, g4, g5⟩ := m_fill hT hN (by omega) hy h3 h4 (fun c hc => ⟨hR c hc, (hX c hc).2⟩)
    refine ⟨_, f', o', row', fillN T N y X, ?_, g3, hN, g2, g4, g5⟩
    unfold F_X8_fill
    rw [e1, (hasYard_ix hsz).1 y hy, zc1_e, if_neg (by decide), g1, zc3_e]
  · refine ⟨(-2 : Int32), filled, oranges, row, N, ?_, ?_, hN, h2, h4, fun _ _ => rfl⟩
    · unfold F_X8_fill; rw [e1, (hasYard_ix hsz).2 p ho, zc1_e, if_pos rfl]
    · unfold F_X9_fill; rw [e2, (isYard_ix hsz).2 p ho, zc1_e, if_pos rfl]
/-! later -/
theorem v_nightIn {T : TA} {N : NA} {yards seeps children hours filled tl hh hf ht : Int32} {tides seepYard seepSize growth level kind childYard pace ear size yard oranges hs hy ho : Nat → Int32} {n : Nat} (hT : okT T) (hN : okN T N 9999) (hn : n ≤ 99) (h1 : rT yards seeps children tides seepYard seepSize growth level kind childYard pace ear T) (h2 : rN hours filled tl size yard oranges T N) :
    ∃ h' t' z' y' o', F_X1_nightIn yards seeps children tides growth level pace hours filled tl size yard oranges hh hf ht hs hy ho (nI n) = some (h', filled, t', z', y', o') ∧ rN h' filled t' z' y' o' T (hoursN T n N) := by
  obtain ⟨s', y', o', c1, c2⟩ := v_copyN (h1 := hh) (f1 := hf) (t1 := ht) (s1 := hs) (y1 := hy) (o1 := ho) hT h2
  obtain ⟨⟨u1, u2, u3, u4⟩, g1, g2⟩ := v_passHours hT hN (by omega) (show n ≤ 1000 by omega) h1 c2
  refine ⟨u1, u2, u3, u4, o', ?_, g2⟩
  unfold F_X1_nightIn
  rw [c1, zc6_e, g1, zc4_e]
theorem m_run {T : TA} {N : NA} {M n : Nat} {my ms mc : Int32} {row row0 mt mseeps mk mp me : Nat → Int32} (hT : okT T) (hN : okN T N M) (hM : M + n ≤ 30000) (hn : n < 2000) (h3 : mT my ms mc row0 mt mseeps mk mp me T) (h4 : mN 57 row T N) {β : Type} :
    ∃ r, (mN 57 r T (hoursN T n N) ∧ ∀ j, (j < 57 ∨ 76 ≤ j) → r j = row j) ∧ ∀ K : (Nat → Int32) → Option β, zl2 (fun x10 h11 ag12 => if nI n ≤ x10 then K h11 else (zc1 (F_X9_hour my ms mc h11 mt mseeps mp (57 : Int32)) (fun g22 => bd (x10 + (1 : Int32)) (fun v24 => ag12 v24 g22)))) FU (0 : Int32) row = K r := by
  obtain ⟨a', r, ⟨i1, i2, i3⟩, hk⟩ := zl2_ex (κ := (Nat → Int32) → Option β) (β := β) (body := fun K x10 h11 ag12 => if nI n ≤ x10 then K h11 else (zc1 (F_X9_hour my ms mc h11 mt mseeps mp (57 : Int32)) (fun g22 => bd (x10 + (1 : Int32)) (fun v24 => ag12 v24 g22)))) (fun i x z => x = nI i ∧ mN 57 z T (hoursN T i N) ∧ ∀ j, (j < 57 ∨ 76 ≤ j) → z j = row j) n (fun i x z hi hI => by
    obtain ⟨rfl, i2, i3⟩ := hI
    obtain ⟨r, r1, r2, r3⟩ := m_hour hT (hoursN_ok hT hN i) (by omega) (show 57 ≤ 76 by omega) h3 i2
    refine ⟨nI (i + 1), r, ⟨rfl, r2, fun j hj => by rw [r3 j (by omega)]; exact i3 j hj⟩, fun q k => ?_⟩
    have r1 : F_X9_hour my ms mc z mt mseeps mp (57 : Int32) = some r := r1
    simp (disch := omega) only [leN, show ¬ n ≤ i by omega, if_false, r1, zc1_e, bdE, nI_1]) n 0 (0 : Int32) row rfl (by omega) ⟨rfl, h4, fun _ _ => rfl⟩
  refine ⟨r, ⟨i2, i3⟩, fun K => ?_⟩
  obtain ⟨k, hk⟩ := hk K FU (by unfold FU; omega)
  rw [hk, i1]
  simp (disch := omega) only [leN, Nat.le_refl, if_true]
theorem m_tried {T : TA} {N : NA} {row : Nat → Int32} (hT : okT T) (h4 : mN 0 row T N) : ∃ r0, F_X9_copy row (0 : Int32) (57 : Int32) = some r0 ∧ mN 57 r0 T N ∧ ∀ j, (j < 57 ∨ 76 ≤ j) → r0 j = row j := by
  obtain ⟨r, r1, r2, r3⟩ := m_copy (row := row) (a := 0) (b := 57) (by omega) (by omega) (by omega)
  exact ⟨r, r1, mN_copy hT h4 (fun k hk => r2 k hk), fun j hj => r3 j (by omega)⟩
theorem b_later {T : TA} {N : NA} {yards seeps children hours filled tl hh hf htl : Int32} {tides seepYard seepSize growth level kind childYard pace ear size yard oranges hs hy ho : Nat → Int32} {p1 p2 p3 : Int32} (hT : okT T) (hN : okN T N 9999) (h1 : rT yards seeps children tides seepYard seepSize growth level kind childYard pace ear T) (h2 : rN hours filled tl size yard oranges T N)
    {my ms mc : Int32} {row mt mseeps mk mp me : Nat → Int32} (h3 : mT my ms mc row mt mseeps mk mp me T) (h4 : mN 0 row T N) :
    ∃ r a1 a2 a3 a4 a5 a6 row', F_X8_later yards seeps children tides seepYard growth level kind pace ear hours filled tl size yard oranges hh hf htl hs hy ho p1 p2 p3 = some (r, a1, a2, a3, a4, a5, a6) ∧ F_X9_later my ms mc row mt mseeps mk mp me p1 p2 p3 = some (r, row') ∧ ∀ j, (j < 57 ∨ 76 ≤ j) → row' j = row j := by
  have a3 : tS T ≤ 6 := hT.2.2.1
  have a4 : tC T ≤ 5 := hT.2.2.2.1
  have q2 : seeps = nI (tS T) := h1.2.1
  have q3 : children = nI (tC T) := h1.2.2.1
  have w2 : ms = nI (tS T) := h3.2.1
  have w3 : mc = nI (tC T) := h3.2.2.1
  have hz1 : tS T < 2 ^ 30 := by omega
  have hz2 : tC T < 2 ^ 30 := by omega
  unfold F_X8_later F_X9_later
  rw [v_isWithin p3, W0', W2, v_in p3, zc1_e, zc1_e]
  by_cases hc : (0 : Int32) ≤ p3 ∧ p3 ≤ (2 : Int32)
  · obtain ⟨w, v1, v2, rfl⟩ := inNat (a := 0) (b := 2) (by omega) hc (by omega)
    rw [if_pos hc, v_isWithin p2, W99, v_in p2]
    simp only [ne10, if_false, zj1, zj0, zc1_e]
    have k1 : ∀ s, s < tS T → F_X7_hasSeep seeps (nI s) = some 1 := fun s hs => by rw [q2]; exact (hasSeep_ix hz1).1 s hs
    have k2 : ∀ s, s < tS T → F_X9_isSeep ms (nI s) = some 1 := fun s hs => by rw [w2]; exact (isSeep_ix hz1).1 s hs
    have k3 : ∀ s, s < tC T → F_X7_hasChild children (nI s) = some 1 := fun s hs => by rw [q3]; exact (hasChild_ix hz2).1 s hs
    have k4 : ∀ s, s < tC T → F_X9_isChild mc (nI s) = some 1 := fun s hs => by rw [w3]; exact (isChild_ix hz2).1 s hs
    have k5 : ∀ p, (p < 0 ∨ nI (tS T) ≤ p) → F_X7_hasSeep seeps p = some 0 := fun s hs => by rw [q2]; exact (hasSeep_ix hz1).2 s hs
    have k6 : ∀ p, (p < 0 ∨ nI (tS T) ≤ p) → F_X9_isSeep ms p = some 0 := fun s hs => by rw [w2]; exact (isSeep_ix hz1).2 s hs
    have k7 : ∀ p, (p < 0 ∨ nI (tC T) ≤ p) → F_X7_hasChild children p = some 0 := fun s hs => by rw [q3]; exact (hasChild_ix hz2).2 s hs
    have k8 : ∀ p, (p < 0 ∨ nI (tC T) ≤ p) → F_X9_isChild mc p = some 0 := fun s hs => by rw [w3]; exact (isChild_ix hz2).2 s hs
    have e0 : (nI 0 = (0 : Int32)) = True := eq_true rfl
    have e1 : (nI 1 = (0 : Int32)) = False := eq_false (by decide)
    have e2 : (nI 2 = (0 : Int32)) = False := eq_false (by decide)
    have e3 : (nI 1 = (1 : Int32)) = True := eq_true rfl
    have e4 : (nI 2 = (1 : Int32)) = False := eq_false (by decide)
    by_cases ht : (0 : Int32) ≤ p2 ∧ p2 ≤ (99 : Int32)
    · obtain ⟨n, n1, n2, rfl⟩ := inNat (a := 0) (b := 99) (by omega) ht (by omega)
      rw [if_pos ht]
      obtain ⟨u1, u2, u3, u4, u5, g1, g2⟩ := v_nightIn (hh := hh) (hf := hf) (ht := htl) (hs := hs) (hy := hy) (ho := ho) hT hN n2 h1 h2
      obtain ⟨r0, c1, c2, c3⟩ := m_tried hT h4
      obtain ⟨r, ⟨i2, i3⟩, hK⟩ := m_run (β := Int32 × (Nat → Int32)) hT hN (show 9999 + n ≤ 30000 by omega) (by omega) h3 c2
      have hr : ∀ j, (j < 57 ∨ 76 ≤ j) → r j = row j := fun j hj => (i3 j hj).trans (c3 j hj)
      rcases (show w = 0 ∨ w = 1 ∨ w = 2 by omega) with rfl | rfl | rfl
      · rcases ixC p1 hz1 with ⟨s, hs1, rfl⟩ | hout
        · have z1 := g2.2.2.2.1 s hs1
          have z2 := i2.2.2.2.1 s hs1
          simp only [e0, if_true, k1 s hs1, k2 s hs1, zc1_e, ne10, if_false]
          rw [g1, zc6_e, c1, zc1_e, hK]
          simp (disch := omega) only [show (57 : Int32) = nI 57 from rfl, nI_add, rdN, z1, z2]
          exact ⟨_, _, _, _, _, _, _, r, rfl, rfl, hr⟩
        · simp only [e0, if_true, k5 p1 hout, k6 p1 hout, zc1_e, eq00]
          exact ⟨_, _, _, _, _, _, _, row, rfl, rfl, fun _ _ => rfl⟩
      · rcases ixC p1 hz2 with ⟨s, hs1, rfl⟩ | hout
        · have z1 := (g2.2.2.2.2 s hs1).1
          have z2 : r (64 + s) = _ := (i2.2.2.2.2 s hs1).1
          simp only [e1, e3, if_true, if_false, k3 s hs1, k4 s hs1, zc1_e, ne10]
          rw [g1, zc6_e, c1, zc1_e, hK]
          simp (disch := omega) only [show (64 : Int32) = nI 64 from rfl, nI_add, rdN, z1, z2]
          exact ⟨_, _, _, _, _, _, _, r, rfl, rfl, hr⟩
        · simp only [e1, if_true, if_false, k7 p1 hout, k8 p1 hout, zc1_e, eq00]
          exact ⟨_, _, _, _, _, _, _, row, rfl, rfl, fun _ _ => rfl⟩
      · rcases ixC p1 hz2 with ⟨s, hs1, rfl⟩ | hout
        · have z1 := v_heardBy hT (hoursN_ok hT hN n) (by omega) hs1 h1 g2
          have z2 : F_X9_hears ms r mseeps mk me (57 : Int32) (nI s) = _ := m_hears hT (hoursN_ok hT hN n) (by omega) (show 57 ≤ 76 by omega) hs1 h3 i2
          simp only [e2, e4, if_true, if_false, k3 s hs1, k4 s hs1, zc1_e, ne10]
          rw [g1, zc6_e, c1, zc1_e, hK]
          simp only [z1, z2, zc1_e]
          exact ⟨_, _, _, _, _, _, _, r, rfl, rfl, hr⟩
        · simp only [e2, if_true, if_false, k7 p1 hout, k8 p1 hout, zc1_e, eq00]
          exact ⟨_, _, _, _, _, _, _, row, rfl, rfl, fun _ _ => rfl⟩
    · rw [if_neg ht]
      rcases (show w = 0 ∨ (w = 1 ∨ w = 2) by omega) with rfl | hw
      · rcases ixC p1 hz1 with ⟨s, hs1, rfl⟩ | hout
        · simp only [e0, if_true, k1 s hs1, k2 s hs1, zc1_e, ne10, if_false, eq00]
          exact ⟨_, _, _, _, _, _, _, row, rfl, rfl, fun _ _ => rfl⟩
        · simp only [e0, if_true, k5 p1 hout, k6 p1 hout, zc1_e, eq00]
          exact ⟨_, _, _, _, _, _, _, row, rfl, rfl, fun _ _ => rfl⟩
      · have ew : (nI w = (0 : Int32)) = False := by rcases hw with rfl | rfl <;> assumption
        rcases ixC p1 hz2 with ⟨s, hs1, rfl⟩ | hout
        · simp only [ew, if_true, k3 s hs1, k4 s hs1, zc1_e, ne10, if_false, eq00]
          exact ⟨_, _, _, _, _, _, _, row, rfl, rfl, fun _ _ => rfl⟩
        · simp only [ew, if_true, if_false, k7 p1 hout, k8 p1 hout, zc1_e, eq00]
          exact ⟨_, _, _, _, _, _, _, row, rfl, rfl, fun _ _ => rfl⟩
  · rw [if_neg hc]
    simp only [eq00, if_true]
    exact ⟨_, _, _, _, _, _, _, row, rfl, rfl, fun _ _ => rfl⟩
/-! in how many hours a seep is broken -/
def dueF (Z : Nat → Nat) : Nat → Nat → Int32
  | 0, _ => -1
  | f + 1, t => if 100 ≤ Z t then nI t else dueF Z f (t + 1)
def dueI (Z : Nat → Nat) : Int32 := dueF Z 1000 0
theorem dueF_hit {Z : Nat → Nat} {t : Nat} (ht : 100 ≤ Z t) : ∀ d f u, u + d = t → d < f → (∀ v, u ≤ v → v < t → Z v < 100) → dueF Z f u = nI t
  | d, 0, u, _, h, _ => absurd h (by omega)
  | 0, f + 1, u, h1, _, _ => by
    have e : u = t := by omega
    subst e
    show (if 100 ≤ Z u then nI u else _) = _
    rw [if_pos ht]
  | d + 1, f + 1, u, h1, h2, h3 => by
    show (if 100 ≤ Z u then nI u else dueF Z f (u + 1)) = _
    have := h3 u (Nat.le_refl _) (by omega)
    rw [if_neg (by omega)]
    exact dueF_hit ht d f (u + 1) (by omega) (by omega) (fun v a b => h3 v (by omega) b)
theorem dueF_no {Z : Nat → Nat} : ∀ f u, (∀ v, u ≤ v → v < u + f → Z v < 100) → dueF Z f u = -1
  | 0, u, _ => rfl
  | f + 1, u, h => by
    show (if 100 ≤ Z u then nI u else dueF Z f (u + 1)) = _
    have := h u (Nat.le_refl _) (by omega)
    rw [if_neg (by omega)]
    exact dueF_no f (u + 1) (fun v a b => h v (by omega) (by omega))
theorem fst_cases (Z : Nat → Nat) (n : Nat) : (∃ t, t < n ∧ 100 ≤ Z t ∧ ∀ u, u < t → Z u < 100) ∨ ∀ t, t < n → Z t < 100 := by
  induction n with
  | zero => exact Or.inr (fun t h => by omega)
  | succ n ih =>
    rcases ih with ⟨t, h1, h2⟩ | h
    · exact Or.inl ⟨t, by omega, h2⟩
    · by_cases e : 100 ≤ Z n
      · exact Or.inl ⟨n, by omega, e, h⟩
      · refine Or.inr (fun t ht => ?_)
        by_cases e2 : t = n
        · subst e2; omega
        · exact h t (by omega)
theorem due_cases (Z : Nat → Nat) : (∃ t, t ≤ 999 ∧ 100 ≤ Z t ∧ (∀ u, u < t → Z u < 100) ∧ dueI Z = nI t) ∨ ((∀ t, t ≤ 999 → Z t < 100) ∧ dueI Z = -1) := by
  rcases fst_cases Z 1000 with ⟨t, h1, h2, h3⟩ | h
  · exact Or.inl ⟨t, by omega, h2, h3, dueF_hit h2 t 1000 0 (by omega) (by omega) (fun v _ hv => h3 v hv)⟩
  · exact Or.inr ⟨fun t ht => h t (by omega), dueF_no 1000 0 (fun v _ hv => h v (by omega))⟩
theorem hoursN_F (T : TA) (N : NA) (n : Nat) : nF (hoursN T n N) = nF N := by
  induction n with
  | zero => rfl
  | succ n ih => exact ih
theorem hoursN_H (T : TA) (N : NA) (n : Nat) : nH (hoursN T n N) = nH N + n := by
  induction n with
  | zero => rfl
  | succ n ih => show nH (hoursN T n N) + 1 = _; rw [ih]; rfl
theorem hoursN_S {T : TA} {N : NA} {s : Nat} (hf : nF N s = false) (n : Nat) : nS (hoursN T (n + 1) N) s = grownN T (nH N + n) s (nS (hoursN T n N) s) := by
  show (if nF (hoursN T n N) s then nS (hoursN T n N) s else grownN T (nH (hoursN T n N)) s (nS (hoursN T n N) s)) = _
  rw [hoursN_F, hf, hoursN_H]; rfl
abbrev dueS (T : TA) (N : NA) (s : Nat) : Int32 := dueI (fun t => nS (hoursN T t N) s)
theorem v_hoursToBreak {T : TA} {N : NA} {hours : Int32} {tides growth level size : Nat → Int32} {s : Nat} (hT : okT T) (hN : okN T N 9999) (hs : s < tS T) (hf : nF N s = false) (hh : hours = nI (nH N)) (h1 : ∀ h, h < 12 → tides h = nI (tTd T h)) (h2 : growth s = nI (tGr T s)) (h3 : level s = nI (tLv T s)) (hz : size s = nI (nS N s)) :
    F_X1_hoursToBreak tides growth level hours size (nI s) = some (dueS T N s) := by
  have a3 : tS T ≤ 6 := hT.2.2.1
  have o1 := hN.1
  have hZ : ∀ t, nS (hoursN T t N) s ≤ 100 := fun t => ((hoursN_ok hT hN t).2.1 s hs).2
  unfold F_X1_hoursToBreak
  simp (disch := omega) only [rdN, hz, hh]
  have stp : ∀ i, i < 1000 → nS (hoursN T i N) s < 100 → ∀ k : Int32 → Int32 → Option Int32, (if (999 : Int32) < nI i then (some (-1 : Int32)) else (if nI (nS (hoursN T i N) s) < (100 : Int32) then (bd (nI (nH N) + nI i) (fun v8 => zc1 (F_X7_grown tides growth level (nI s) (nI (nS (hoursN T i N) s)) v8) (fun v9 => bd (nI i + (1 : Int32)) (fun v11 => k v9 v11)))) else (some (nI i)))) = k (nI (nS (hoursN T (i + 1) N) s)) (nI (i + 1)) := fun i hi hlt k => by
    have g := v_grown hT hs (show nH N + i < 2 ^ 31 by omega) (hZ i) h1 h2 h3
    have := hZ i
    simp (disch := omega) only [show (999 : Int32) = nI 999 from rfl, show (100 : Int32) = nI 100 from rfl, ltN, show ¬ 999 < i by omega, hlt, if_true, if_false, nI_add, bdE, g, zc1_e, nI_1, hoursN_S hf]
  rcases due_cases (fun t => nS (hoursN T t N) s) with ⟨t, t1, t2, t3, t4⟩ | ⟨t1, t2⟩
  · show _ = some (dueI _)
    rw [t4]
    refine zl2_for (fun i => nI (nS (hoursN T i N) s)) (fun i => nI i) t (fun i hi k => stp i (by omega) (t3 i hi) k) (fun k => ?_) t 0 FU rfl (by omega) (by unfold FU; omega)
    have := hZ t
    have t2 : 100 ≤ nS (hoursN T t N) s := t2
    simp (disch := omega) only [show (999 : Int32) = nI 999 from rfl, show (100 : Int32) = nI 100 from rfl, ltN, show ¬ 999 < t by omega, show ¬ nS (hoursN T t N) s < 100 by omega, if_false]
  · show _ = some (dueI _)
    rw [t2]
    refine zl2_for (fun i => nI (nS (hoursN T i N) s)) (fun i => nI i) 1000 (fun i hi k => stp i hi (t1 i (by omega)) k) (fun k => ?_) 1000 0 FU rfl (by omega) (by unfold FU; omega)
    rw [if_pos (by decide)]
theorem m_breaksIn {T : TA} {N : NA} {my ms mc : Int32} {row mt mseeps mk mp me : Nat → Int32} {row0 : Nat → Int32} {s : Nat} (hT : okT T) (hN : okN T N 9999) (hs : s < tS T) (h3 : mT my ms mc row0 mt mseeps mk mp me T) (h4 : mN 0 row T N) :
    ∃ row', F_X9_breaksIn my ms mc row mt mseeps mp (nI s) = some (dueS T N s, row') ∧ ∀ j, (j < 57 ∨ 76 ≤ j) → row' j = row j := by
  have a3 : tS T ≤ 6 := hT.2.2.1
  have hZ : ∀ t, nS (hoursN T t N) s ≤ 100 := fun t => ((hoursN_ok hT hN t).2.1 s hs).2
  obtain ⟨r0, c1, c2, c3⟩ := m_tried hT h4
  refine ex_pair (P := fun (row' : Nat → Int32) => ∀ j, (j < 57 ∨ 76 ≤ j) → row' j = row j) ?_
  unfold F_X9_breaksIn
  rw [c1, zc1_e]
  have stp : ∀ i z, i < 999 → nS (hoursN T i N) s < 100 → (mN 57 z T (hoursN T i N) ∧ ∀ j, (j < 57 ∨ 76 ≤ j) → z j = row j) → ∃ z', (mN 57 z' T (hoursN T (i + 1) N) ∧ ∀ j, (j < 57 ∨ 76 ≤ j) → z' j = row j) ∧ ∀ k : Int32 → (Nat → Int32) → Option (Int32 × (Nat → Int32)), zj0 (rd 95 z ((57 : Int32) + nI s) (fun v7 => if v7 = (100 : Int32) then (some (nI i, z)) else (some ((-1 : Int32), z)))) (fun K6 => if (999 : Int32) ≤ nI i then (K6) else (rd 95 z ((57 : Int32) + nI s) (fun v11 => if (100 : Int32) ≤ v11 then (K6) else (zc1 (F_X9_hour my ms mc z mt mseeps mp (57 : Int32)) (fun g14 => bd (nI i + (1 : Int32)) (fun v16 => k v16 g14)))))) = k (nI (i + 1)) z' := fun i z hi hlt hI => by
    obtain ⟨i2, i3⟩ := hI
    obtain ⟨r, r1, r2, r3⟩ := m_hour hT (hoursN_ok hT hN i) (by omega) (show 57 ≤ 76 by omega) h3 i2
    refine ⟨r, ⟨r2, fun j hj => by rw [r3 j (by omega)]; exact i3 j hj⟩, fun k => ?_⟩
    have z2 := i2.2.2.2.1 s hs
    simp (disch := omega) only [zj0, show (999 : Int32) = nI 999 from rfl, show (57 : Int32) = nI 57 from rfl, show (100 : Int32) = nI 100 from rfl, nI_add, rdN, z2, leN, show ¬ 999 ≤ i by omega, show ¬ 100 ≤ nS (hoursN T i N) s by omega, if_false, r1, zc1_e, bdE, nI_1]
  rcases due_cases (fun t => nS (hoursN T t N) s) with ⟨t, t1, t2, t3, t4⟩ | ⟨t1, t2⟩
  · rw [show dueS T N s = nI t from t4]
    refine zl2_inv (fun i x z => x = nI i ∧ mN 57 z T (hoursN T i N) ∧ ∀ j, (j < 57 ∨ 76 ≤ j) → z j = row j) t (fun i x z hi hI => ?_) (fun x z hI k => ?_) t 0 FU _ _ rfl (by omega) (by unfold FU; omega) ⟨rfl, c2, c3⟩
    · obtain ⟨rfl, hI⟩ := hI
      obtain ⟨z', y1, y2⟩ := stp i z (by omega) (t3 i hi) hI
      exact ⟨nI (i + 1), z', ⟨rfl, y1⟩, y2⟩
    · obtain ⟨rfl, i2, i3⟩ := hI
      have z2 := i2.2.2.2.1 s hs
      have e := hZ t
      have t2 : 100 ≤ nS (hoursN T t N) s := t2
      refine ⟨(nI t, z), ?_, rfl, i3⟩
      simp (disch := omega) only [zj0, show (999 : Int32) = nI 999 from rfl, show (57 : Int32) = nI 57 from rfl, show (100 : Int32) = nI 100 from rfl, nI_add, rdN, z2, leN, eqN, show 100 ≤ nS (hoursN T t N) s from t2, show nS (hoursN T t N) s = 100 by omega, Nat.le_refl, if_true, ite_self]
  · rw [show dueS T N s = -1 from t2]
    refine zl2_inv (fun i x z => x = nI i ∧ mN 57 z T (hoursN T i N) ∧ ∀ j, (j < 57 ∨ 76 ≤ j) → z j = row j) 999 (fun i x z hi hI => ?_) (fun x z hI k => ?_) 999 0 FU _ _ rfl (by omega) (by unfold FU; omega) ⟨rfl, c2, c3⟩
    · obtain ⟨rfl, hI⟩ := hI
      obtain ⟨z', y1, y2⟩ := stp i z hi (t1 i (by omega)) hI
      exact ⟨nI (i + 1), z', ⟨rfl, y1⟩, y2⟩
    · obtain ⟨rfl, i2, i3⟩ := hI
      have z2 := i2.2.2.2.1 s hs
      have e : nS (hoursN T 999 N) s < 100 := t1 999 (by omega)
      refine ⟨(-1, z), ?_, rfl, i3⟩
      simp (disch := omega) only [zj0, show (999 : Int32) = nI 999 from rfl, show (57 : Int32) = nI 57 from rfl, show (100 : Int32) = nI 100 from rfl, nI_add, rdN, z2, leN, eqN, show ¬ nS (hoursN T 999 N) s = 100 by omega, Nat.le_refl, if_true, if_false]
theorem b_breaks {T : TA} {N : NA} {yards seeps children hours filled tl : Int32} {tides seepYard seepSize growth level kind childYard pace ear size yard oranges : Nat → Int32} {p : Int32} (hT : okT T) (hN : okN T N 9999) (h1 : rT yards seeps children tides seepYard seepSize growth level kind childYard pace ear T) (h2 : rN hours filled tl size yard oranges T N)
    {my ms mc : Int32} {row mt mseeps mk mp me : Nat → Int32} (h3 : mT my ms mc row mt mseeps mk mp me T) (h4 : mN 0 row T N) :
    ∃ r row', F_X8_breaks seeps tides growth level hours filled size p = some r ∧ F_X9_breaks my ms mc row mt mseeps mp p = some (r, row') ∧ ∀ j, (j < 57 ∨ 76 ≤ j) → row' j = row j := by
  have a3 : tS T ≤ 6 := hT.2.2.1
  have hz1 : tS T < 2 ^ 30 := by omega
  have hb := bitsN_31 (n := tS T) (p := nF N) (by omega)
  have g6 : row 6 = nI (bitsN (tS T) (nF N)) := by have := h4.2.1; rwa [Nat.zero_add] at this
  unfold F_X8_breaks F_X9_breaks
  rcases ixC p hz1 with ⟨s, hs, rfl⟩ | hout
  · have htb : (bitsN (tS T) (nF N)).testBit s = nF N s := by rw [bitsN_test]; simp [hs]
    obtain ⟨row', m1, m2⟩ := m_breaksIn hT hN hs h3 h4
    rw [show seeps = nI (tS T) from h1.2.1, show filled = _ from h2.2.1, (hasSeep_ix hz1).1 s hs, zc1_e, v_isFilled (by omega) (by omega), zc1_e, htb]
    rw [show F_X9_isSeep ms (nI s) = some 1 from by rw [show ms = nI (tS T) from h3.2.1]; exact (isSeep_ix hz1).1 s hs, zc1_e, show rd 95 row (6 : Int32) = rd 95 row (nI 6) from rfl, rdN (by omega) (by omega), g6, v_has (by omega) (by omega), zc1_e, htb]
    simp only [ne10, if_false]
    cases hf : nF N s
    · rw [v_hoursToBreak hT hN hs hf h2.1 h1.2.2.2.1 (h1.2.2.2.2.1 s hs).2.2.1 (h1.2.2.2.2.1 s hs).2.2.2 (h2.2.2.2.1 s hs), m1]
      exact ⟨_, row', rfl, rfl, m2⟩
    · exact ⟨_, row, rfl, rfl, fun _ _ => rfl⟩
  · rw [show seeps = nI (tS T) from h1.2.1, (hasSeep_ix hz1).2 p hout, show F_X9_isSeep ms p = some 0 from by rw [show ms = nI (tS T) from h3.2.1]; exact (isSeep_ix hz1).2 p hout]
    exact ⟨_, row, rfl, rfl, fun _ _ => rfl⟩
