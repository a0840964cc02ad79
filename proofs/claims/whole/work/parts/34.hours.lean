/-! ===== hours, on both sides ===== -/
theorem v_walks {T : TA} {yards children tl : Int32} {pace yard : Nat → Int32} {D : Nat → Bool} {M : Nat → Nat} {β : Type} (hT : okT T) (hy : yards = nI (tY T)) (hch : children = nI (tC T)) (hp : ∀ c, c < tC T → pace c = nI (tPc T c)) (htl : tl = nI (bitsN (tC T) D)) (hyd : ∀ c, c < tC T → yard c = nI (M c)) (hM : ∀ c, c < tC T → M c < tY T) :
    ∃ (tl' : Int32) (yd' : Nat → Int32), tl' = nI (bitsN (tC T) (fun c => (wkC (tY T) (tPc T c) (D c, M c)).1)) ∧ (∀ c, c < tC T → yd' c = nI (wkC (tY T) (tPc T c) (D c, M c)).2) ∧
      ∀ K : Int32 → (Nat → Int32) → Option β, zl3 (fun x10 h11 h12 ag13 => if children ≤ x10 then (K h11 h12) else (zc2 (F_X3_walk yards pace h11 h12 x10) (fun g17 g18 => bd (x10 + (1 : Int32)) (fun v20 => ag13 v20 g17 g18)))) FU (0 : Int32) tl yard = K tl' yd' := by
  have a4 : tC T ≤ 5 := hT.2.2.2.1
  obtain ⟨x, t, y, ⟨rfl, i2, i3⟩, h2⟩ := zl3_ex (κ := Int32 → (Nat → Int32) → Option β) (body := fun K x10 h11 h12 ag13 => if children ≤ x10 then (K h11 h12) else (zc2 (F_X3_walk yards pace h11 h12 x10) (fun g17 g18 => bd (x10 + (1 : Int32)) (fun v20 => ag13 v20 g17 g18))))
    (fun i x t y => x = nI i ∧ t = nI (bitsN (tC T) (fun c => if c < i then (wkC (tY T) (tPc T c) (D c, M c)).1 else D c)) ∧ ∀ c, c < tC T → y c = nI (if c < i then (wkC (tY T) (tPc T c) (D c, M c)).2 else M c)) (tC T) (fun i x t y hi hI => by
      obtain ⟨rfl, i2, i3⟩ := hI
      have g := i3 i hi
      rw [if_neg (Nat.lt_irrefl i)] at g
      obtain ⟨r, r1, r2, r3, r4⟩ := v_walk (N := (0, D, D, M, M, M)) (M := M) hT hi hy (hp i hi) i2 g (hM i hi)
      obtain ⟨u, w⟩ := r
      rw [if_neg (Nat.lt_irrefl i)] at r2 r3
      refine ⟨nI (i + 1), u, w, ⟨rfl, ?_, fun c hc => ?_⟩, fun q k => ?_⟩
      · rw [show u = _ from r2]
        congr 2
        funext j
        by_cases e : j = i
        · subst e; simp
        · by_cases e2 : j < i
          · simp only [e, e2, show j < i + 1 by omega, if_true, if_false]
          · simp only [e, e2, show ¬ j < i + 1 by omega, if_false]
      · by_cases e : c = i
        · subst e; simpa using r3
        · rw [show w c = _ from r4 c e, i3 c hc]
          by_cases e2 : c < i
          · simp only [e2, show c < i + 1 by omega, if_true]
          · simp only [e2, show ¬ c < i + 1 by omega, if_false]
      · simp (disch := omega) only [hch, leN, show ¬ tC T ≤ i by omega, r1, zj0, zj1, zj2, zj3, zj4, zj9, bdE, nI_add, pk_mul, pk_sub, rdN, wrN, zc0_e, zc1_e, zc2_e, zc3_e, zc4_e, zc5_e, nI_1, nI_clamp, bzp, ne10, eq00, ne01, eq11, if_true, if_false, or0, ckZ1, ckZ0, ckZp, L2, L3, L4, L5, L6, L7, L8, L9, L10, L11, L12, L13, L18, L19, L23, L24, L32, L48, L57, L59, L76, L96, L97, L99, L100, L122, L120, L200, L999, L9999])
    (tC T) 0 (0 : Int32) tl yard rfl (by omega) ⟨rfl, by rw [htl]; congr 2, fun c hc => by simpa using hyd c hc⟩
  refine ⟨t, y, ?_, fun c hc => ?_, fun K => ?_⟩
  · rw [i2]
    congr 1
    exact bitsN_congr (fun i hi => by rw [if_pos hi])
  · rw [i3 c hc, if_pos hc]
  · obtain ⟨k, h3⟩ := h2 K FU (by unfold FU; omega)
    rw [h3]
    simp (disch := omega) only [hch, leN, Nat.le_refl, if_true]
theorem v_passHours {T : TA} {N : NA} {M : Nat} {yards seeps children hours filled tl : Int32} {tides seepYard seepSize growth level kind childYard pace ear size yard oranges : Nat → Int32} {n : Nat} (hT : okT T) (hN : okN T N M) (hM : M ≤ 20000) (hn : n ≤ 1000) (h1 : rT yards seeps children tides seepYard seepSize growth level kind childYard pace ear T) (h2 : rN hours filled tl size yard oranges T N) :
    ∃ r, F_X3_passHours yards seeps children tides growth level pace hours filled tl size yard (nI n) = some r ∧ rN r.1 filled r.2.1 r.2.2.1 r.2.2.2 oranges T (hoursN T n N) := by
  obtain ⟨q1, q2, q3, q4, q5, q6⟩ := h1
  unfold F_X3_passHours
  refine zl5_inv (fun i x h t z y => x = nI i ∧ rN h filled t z y oranges T (hoursN T i N)) n (fun i x h t z y hi hI => ?_) (fun x h t z y hI k => ?_) n 0 FU _ _ _ _ _ rfl (by omega) (by unfold FU; omega) ⟨rfl, h2⟩
  · obtain ⟨rfl, p1, p2, p3, p4, p5⟩ := hI
    obtain ⟨o1, o2, o3⟩ := hoursN_ok hT hN i
    obtain ⟨z', g1, g2⟩ := v_growSeeps (Z := nS (hoursN T i N)) hT q2 q4 (fun s hs => ⟨(q5 s hs).2.2.1, (q5 s hs).2.2.2⟩) p1 (by omega) p2 (fun s hs => ⟨p4 s hs, (o2 s hs).2⟩)
    obtain ⟨t', y', w1, w2, w3⟩ := v_walks (β := Int32 × Int32 × (Nat → Int32) × (Nat → Int32)) hT q1 q3 (fun c hc => (q6 c hc).2.2.1) p3 (fun c hc => (p5 c hc).1) o3
    refine ⟨nI (i + 1), nI (nH (hoursN T i N) + 1), t', z', y', ⟨rfl, rfl, p2, w1, g2, fun c hc => ⟨w2 c hc, (p5 c hc).2⟩⟩, fun k => ?_⟩
    rw [if_neg (nI_ge hi (by omega)), g1, zc1_e]
    refine (w3 (fun h11 h12 => bd (h + (1 : Int32)) (fun v15 => bd (nI i + (1 : Int32)) (fun v16 => k v16 v15 h11 z' h12)))).trans ?_
    simp only [bdE, p1, nI_1]
  · obtain ⟨rfl, hI⟩ := hI
    simp (disch := omega) only [leN, Nat.le_refl, if_true]
    exact ⟨_, rfl, hI⟩
/-! the reference -/
theorem xor0 (a : Nat) : nI a ^^^ (0 : Int32) = nI a := by rw [l0, fa_xor, Nat.xor_zero]
theorem m_walk {T : TA} {yards : Int32} {row paces : Nat → Int32} {base c : Nat} {D : Nat → Bool} {m : Nat} (hT : okT T) (hb : base ≤ 76) (hc : c < tC T) (hy : yards = nI (tY T)) (hp : paces c = nI (tPc T c)) (htl : row (base + 12) = nI (bitsN (tC T) D)) (hyd : row (base + 7 + c) = nI m) (hM : m < tY T) :
    ∃ r, F_X9_walk yards row paces (nI base) (nI c) = some r ∧ r (base + 12) = nI (bitsN (tC T) (fun i => if i = c then (wkC (tY T) (tPc T c) (D c, m)).1 else D i)) ∧ r (base + 7 + c) = nI (wkC (tY T) (tPc T c) (D c, m)).2 ∧ ∀ j, j ≠ base + 12 → j ≠ base + 7 + c → r j = row j := by
  obtain ⟨a1, a2, a3, a4, a5, a6, a7⟩ := hT
  obtain ⟨b1, b2, b3, b4⟩ := a7 c hc
  unfold F_X9_walk
  refine zl2_inv (fun i x y => x = nI i ∧ y (base + 12) = nI (bitsN (tC T) (fun j => if j = c then (wkC (tY T) i (D c, m)).1 else D j)) ∧ y (base + 7 + c) = nI (wkC (tY T) i (D c, m)).2 ∧ ∀ j, j ≠ base + 12 → j ≠ base + 7 + c → y j = row j) (tPc T c) (fun i x y hi hI => ?_) (fun x y hI k => ?_) (tPc T c) 0 FU _ _ rfl (by omega) (by unfold FU; omega) ⟨rfl, ?_, hyd, fun _ _ _ => rfl⟩
  · obtain ⟨rfl, i2, i3, i4⟩ := hI
    have hlt : (wkC (tY T) i (D c, m)).2 < tY T := wkC_lt (by omega) i hM
    have hstep : wkC (tY T) (i + 1) (D c, m) = stepC (tY T) (wkC (tY T) i (D c, m)) := rfl
    rw [hstep]
    generalize wkC (tY T) i (D c, m) = q at hlt i2 i3 ⊢
    obtain ⟨b, z⟩ := q
    have hlt : z < tY T := hlt
    have i3 : y (base + 7 + c) = nI z := i3
    have i2 : y (base + 12) = nI (bitsN (tC T) (fun j => if j = c then b else D j)) := i2
    have hbt := bitsN_31 (n := tC T) (p := fun j => if j = c then b else D j) (by omega)
    have htb : (bitsN (tC T) (fun j => if j = c then b else D j)).testBit c = b := by rw [bitsN_test]; simp [hc]
    have hx := bitsN_xor (fun j => if j = c then b else D j) hc
    have hx2 : (fun i_1 => if i_1 = c then !(if i_1 = c then b else D i_1) else (if i_1 = c then b else D i_1)) = fun j => if j = c then !b else D j := by
      funext j; by_cases e : j = c <;> simp [e]
    rw [hx2] at hx
    have hbt2 := bitsN_31 (n := tC T) (p := fun j => if j = c then !b else D j) (by omega)
    have htb2 : (bitsN (tC T) (fun j => if j = c then !b else D j)).testBit c = !b := by rw [bitsN_test]; simp [hc]
    have e1 : ∀ w, 0 < w → nI w + (-1 : Int32) = nI (w - 1) := by
      intro w h
      obtain ⟨w, rfl⟩ : ∃ u, w = u + 1 := ⟨w - 1, by omega⟩
      rw [pk_m1]; rfl
    have n1 : ¬ base + 7 + c = base + 12 := by omega
    have n2 : ¬ base + 12 = base + 7 + c := by omega
    refine ⟨nI (i + 1), upd (upd y (base + 12) (nI (bitsN (tC T) (fun j => if j = c then (stepC (tY T) (b, z)).1 else D j)))) (base + 7 + c) (nI (stepC (tY T) (b, z)).2), ⟨rfl, by simp [upd_at, n2], by simp [upd_at], fun j h1 h2 => by rw [upd_at, if_neg h2, upd_at, if_neg h1]; exact i4 j h1 h2⟩, fun k => ?_⟩
    simp (disch := omega) only [hp, hy, i2, i3, leN, show ¬ tPc T c ≤ i by omega, v_has, htb, shl1, subN1, zj0, zj1, zj2, zj3, zj4, zj9, bdE, nI_add, pk_mul, pk_sub, rdN, wrN, zc0_e, zc1_e, zc2_e, zc3_e, zc4_e, zc5_e, nI_1, nI_clamp, bzp, ne10, eq00, ne01, eq11, if_true, if_false, or0, ckZ1, ckZ0, ckZp, L2, L3, L4, L5, L6, L7, L8, L9, L10, L11, L12, L13, L18, L19, L23, L24, L32, L48, L57, L59, L76, L96, L97, L99, L100, L122, L120, L200, L999, L9999]
    unfold stepC
    cases b
    · by_cases e : z = tY T - 1
      · simp (disch := omega) only [eqN, e, Bool.false_eq_true, Bool.not_false, not_false_eq_true, not_true_eq_false, fa_xor, hx, upd_at, n1, n2, i2, i3, v_has, e1, zj0, zj1, zj2, zj3, zj4, zj9, bdE, nI_add, pk_mul, pk_sub, rdN, wrN, zc0_e, zc1_e, zc2_e, zc3_e, zc4_e, zc5_e, nI_1, nI_clamp, bzp, ne10, eq00, ne01, eq11, if_true, if_false, or0, ckZ1, ckZ0, ckZp, L2, L3, L4, L5, L6, L7, L8, L9, L10, L11, L12, L13, L18, L19, L23, L24, L32, L48, L57, L59, L76, L96, L97, L99, L100, L122, L120, L200, L999, L9999] at htb2 hbt2 hx ⊢
        simp (disch := omega) only [fa_xor, hx, v_has, htb2, bzp, not_true_eq_false, if_false, zc1_e]
      · simp (disch := omega) only [eqN, e, Bool.false_eq_true, Bool.not_false, not_false_eq_true, not_true_eq_false, xor0, upd_at, n1, n2, i2, i3, v_has, htb, e1, zj0, zj1, zj2, zj3, zj4, zj9, bdE, nI_add, pk_mul, pk_sub, rdN, wrN, zc0_e, zc1_e, zc2_e, zc3_e, zc4_e, zc5_e, nI_1, nI_clamp, bzp, ne10, eq00, ne01, eq11, if_true, if_false, or0, ckZ1, ckZ0, ckZp, L2, L3, L4, L5, L6, L7, L8, L9, L10, L11, L12, L13, L18, L19, L23, L24, L32, L48, L57, L59, L76, L96, L97, L99, L100, L122, L120, L200, L999, L9999]
    · by_cases e : z = 0
      · simp (disch := omega) only [eq0N, e, Bool.true_eq_false, Bool.not_true, not_false_eq_true, not_true_eq_false, fa_xor, hx, upd_at, n1, n2, i2, i3, v_has, e1, zj0, zj1, zj2, zj3, zj4, zj9, bdE, nI_add, pk_mul, pk_sub, rdN, wrN, zc0_e, zc1_e, zc2_e, zc3_e, zc4_e, zc5_e, nI_1, nI_clamp, bzp, ne10, eq00, ne01, eq11, if_true, if_false, or0, ckZ1, ckZ0, ckZp, L2, L3, L4, L5, L6, L7, L8, L9, L10, L11, L12, L13, L18, L19, L23, L24, L32, L48, L57, L59, L76, L96, L97, L99, L100, L122, L120, L200, L999, L9999] at htb2 hbt2 hx ⊢
        simp (disch := omega) only [fa_xor, hx, v_has, htb2, bzp, Bool.false_eq_true, not_false_eq_true, if_false, if_true, zc1_e, nI_1]
      · simp (disch := omega) only [eq0N, e, Bool.true_eq_false, Bool.not_true, not_false_eq_true, not_true_eq_false, xor0, upd_at, n1, n2, i2, i3, v_has, htb, e1, zj0, zj1, zj2, zj3, zj4, zj9, bdE, nI_add, pk_mul, pk_sub, rdN, wrN, zc0_e, zc1_e, zc2_e, zc3_e, zc4_e, zc5_e, nI_1, nI_clamp, bzp, ne10, eq00, ne01, eq11, if_true, if_false, or0, ckZ1, ckZ0, ckZp, L2, L3, L4, L5, L6, L7, L8, L9, L10, L11, L12, L13, L18, L19, L23, L24, L32, L48, L57, L59, L76, L96, L97, L99, L100, L122, L120, L200, L999, L9999]
  · obtain ⟨rfl, i2, i3, i4⟩ := hI
    simp (disch := omega) only [hp, leN, Nat.le_refl, zj0, zj1, zj2, zj3, zj4, zj9, bdE, nI_add, pk_mul, pk_sub, rdN, wrN, zc0_e, zc1_e, zc2_e, zc3_e, zc4_e, zc5_e, nI_1, nI_clamp, bzp, ne10, eq00, ne01, eq11, if_true, if_false, or0, ckZ1, ckZ0, ckZp, L2, L3, L4, L5, L6, L7, L8, L9, L10, L11, L12, L13, L18, L19, L23, L24, L32, L48, L57, L59, L76, L96, L97, L99, L100, L122, L120, L200, L999, L9999]
    exact ⟨_, rfl, i2, i3, i4⟩
  · rw [htl]
    congr 2
    funext j
    by_cases e : j = c
    · subst e; simp [wkC]
    · simp [e]
theorem m_hour {T : TA} {N : NA} {M : Nat} {yards seepMany many : Int32} {row tides seeps kinds paces ears : Nat → Int32} {row0 : Nat → Int32} {base : Nat} (hT : okT T) (hN : okN T N M) (hM : M ≤ 30000) (hb : base ≤ 76) (h1 : mT yards seepMany many row0 tides seeps kinds paces ears T) (h2 : mN base row T N) :
    ∃ r, F_X9_hour yards seepMany many row tides seeps paces (nI base) = some r ∧ mN base r T (hourN T N) ∧ ∀ j, (j < base ∨ base + 19 ≤ j) → r j = row j := by
  obtain ⟨q1, q2, q3, q4, q5, q6⟩ := h1
  obtain ⟨p1, p2, p3, p4, p5⟩ := h2
  obtain ⟨o1, o2, o3⟩ := hN
  have hT' := hT
  obtain ⟨a1, a2, a3, a4, a5, a6, a7⟩ := hT'
  have hm := Nat.mod_lt (nH N) (show 0 < 12 by omega)
  have htd := q4 _ hm
  have htd9 := a5 _ hm
  have hbS := bitsN_31 (n := tS T) (p := nF N) (by omega)
  unfold F_X9_hour
  simp (disch := omega) only [show (18 : Int32) = nI 18 from rfl, show (12 : Int32) = nI 12 from rfl, nI_add, rdN, p1, remN, htd]
  refine zl2_inv (fun i x y => x = nI i ∧ (∀ s, s < tS T → y (base + s) = nI (if s < i then nS (hourN T N) s else nS N s)) ∧ ∀ j, (j < base ∨ base + tS T ≤ j) → y j = row j) (tS T) (fun i x y hi hI => ?_) (fun x y hI k => ?_) (tS T) 0 FU _ _ rfl (by omega) (by unfold FU; omega) ⟨rfl, fun s hs => by simpa using p4 s hs, fun _ _ => rfl⟩
  · obtain ⟨rfl, i2, i3⟩ := hI
    have g := i2 i hi
    rw [if_neg (Nat.lt_irrefl i)] at g
    have hf6 : y (base + 6) = nI (bitsN (tS T) (nF N)) := by rw [i3 _ (by omega)]; exact p2
    have htb : (bitsN (tS T) (nF N)).testBit i = nF N i := by rw [bitsN_test]; simp [hi]
    obtain ⟨u1, u2, u3, u4, u5⟩ := a6 i hi
    obtain ⟨w1, w2⟩ := o2 i hi
    obtain ⟨-, -, v3, v4⟩ := q5 i hi
    refine ⟨nI (i + 1), upd y (base + i) (nI (nS (hourN T N) i)), ⟨rfl, fun s hs => ?_, fun j hj => ?_⟩, fun k => ?_⟩
    · rw [upd_at]
      by_cases e : s = i
      · subst e; simp
      · rw [if_neg (by omega), i2 s hs]
        by_cases e2 : s < i
        · simp only [e2, show s < i + 1 by omega, if_true]
        · simp only [e2, show ¬ s < i + 1 by omega, if_false]
    · rw [upd_at, if_neg (by omega)]
      exact i3 j hj
    · simp (disch := omega) only [q2, leN, ltN, show ¬ tS T ≤ i by omega, hf6, v_has, htb, v3, v4, g, zj0, zj1, zj2, zj3, zj4, zj9, bdE, nI_add, pk_mul, pk_sub, rdN, wrN, zc0_e, zc1_e, zc2_e, zc3_e, zc4_e, zc5_e, nI_1, nI_clamp, bzp, ne10, eq00, ne01, eq11, if_true, if_false, or0, ckZ1, ckZ0, ckZp, L2, L3, L4, L5, L6, L7, L8, L9, L10, L11, L12, L13, L18, L19, L23, L24, L32, L48, L57, L59, L76, L96, L97, L99, L100, L122, L120, L200, L999, L9999]
      show _ = k (nI (i + 1)) (upd y (base + i) (nI (if nF N i then nS N i else grownN T (nH N) i (nS N i))))
      unfold grownN
      cases hF : nF N i
      · by_cases c : tLv T i ≤ tTd T (nH N % 12)
        · by_cases d : nS N i + tGr T i ≤ 100
          · simp (disch := omega) [leN, show ¬ tTd T (nH N % 12) < tLv T i by omega, c, d, nI_add, Nat.min_eq_right d]
          · simp (disch := omega) [leN, show ¬ tTd T (nH N % 12) < tLv T i by omega, c, d, nI_add, Nat.min_eq_left (show 100 ≤ nS N i + tGr T i by omega)]
        · have w3 : nI (nS N i) + (0 : Int32) = nI (nS N i) := by rw [l0, nI_add, Nat.add_zero]
          simp (disch := omega) [leN, show tTd T (nH N % 12) < tLv T i by omega, c, w3, w2]
      · have w3 : nI (nS N i) + (0 : Int32) = nI (nS N i) := by rw [l0, nI_add, Nat.add_zero]
        simp (disch := omega) [leN, w3, w2]
  · obtain ⟨rfl, i2, i3⟩ := hI
    simp (disch := omega) only [q2, leN, Nat.le_refl, if_true]
    refine zl2_inv (fun i x z => x = nI i ∧ z (base + 12) = nI (bitsN (tC T) (fun c => if c < i then nD (hourN T N) c else nD N c)) ∧ (∀ c, c < tC T → z (base + 7 + c) = nI (if c < i then nY (hourN T N) c else nY N c)) ∧ ∀ j, j ≠ base + 12 → (j < base + 7 ∨ base + 7 + tC T ≤ j) → z j = y j) (tC T) (fun i x z hi hI => ?_) (fun x z hI k => ?_) (tC T) 0 FU _ _ rfl (by omega) (by unfold FU; omega) ⟨rfl, by rw [i3 _ (by omega), p3]; congr 2, fun c hc => by rw [i3 _ (by omega)]; simpa using (p5 c hc).1, fun _ _ _ => rfl⟩
    · obtain ⟨rfl, j2, j3, j4⟩ := hI
      have g := j3 i hi
      rw [if_neg (Nat.lt_irrefl i)] at g
      obtain ⟨r, r1, r2, r3, r4⟩ := m_walk hT hb hi q1 (q6 i hi).2.2.1 j2 g (o3 i hi)
      rw [if_neg (Nat.lt_irrefl i)] at r2 r3
      refine ⟨nI (i + 1), r, ⟨rfl, ?_, fun c hc => ?_, fun j h1 h2 => ?_⟩, fun k => ?_⟩
      · rw [r2]
        congr 2
        funext j
        by_cases e : j = i
        · subst e; simp; rfl
        · by_cases e2 : j < i
          · simp only [e, e2, show j < i + 1 by omega, if_true, if_false]
          · simp only [e, e2, show ¬ j < i + 1 by omega, if_false]
      · by_cases e : c = i
        · subst e; rw [if_pos (by omega)]; exact r3
        · rw [r4 _ (by omega) (by omega), j3 c hc]
          by_cases e2 : c < i
          · simp only [e2, show c < i + 1 by omega, if_true]
          · simp only [e2, show ¬ c < i + 1 by omega, if_false]
      · rw [r4 _ h1 (by omega)]
        exact j4 j h1 h2
      · simp (disch := omega) only [q3, leN, show ¬ tC T ≤ i by omega, r1, zj0, zj1, zj2, zj3, zj4, zj9, bdE, nI_add, pk_mul, pk_sub, rdN, wrN, zc0_e, zc1_e, zc2_e, zc3_e, zc4_e, zc5_e, nI_1, nI_clamp, bzp, ne10, eq00, ne01, eq11, if_true, if_false, or0, ckZ1, ckZ0, ckZp, L2, L3, L4, L5, L6, L7, L8, L9, L10, L11, L12, L13, L18, L19, L23, L24, L32, L48, L57, L59, L76, L96, L97, L99, L100, L122, L120, L200, L999, L9999]
    · obtain ⟨rfl, j2, j3, j4⟩ := hI
      have h18 : z (base + 18) = nI (nH N) := by rw [j4 _ (by omega) (by omega), i3 _ (by omega)]; exact p1
      simp (disch := omega) only [q3, leN, Nat.le_refl, h18, zj0, zj1, zj2, zj3, zj4, zj9, bdE, nI_add, pk_mul, pk_sub, rdN, wrN, zc0_e, zc1_e, zc2_e, zc3_e, zc4_e, zc5_e, nI_1, nI_clamp, bzp, ne10, eq00, ne01, eq11, if_true, if_false, or0, ckZ1, ckZ0, ckZp, L2, L3, L4, L5, L6, L7, L8, L9, L10, L11, L12, L13, L18, L19, L23, L24, L32, L48, L57, L59, L76, L96, L97, L99, L100, L122, L120, L200, L999, L9999]
      refine ⟨_, rfl, ⟨?_, ?_, ?_, fun s hs => ?_, fun c hc => ⟨?_, ?_⟩⟩, fun j hj => ?_⟩
      · simp [upd_at]; rfl
      · rw [upd_at, if_neg (by omega), j4 _ (by omega) (by omega), i3 _ (by omega)]; exact p2
      · rw [upd_at, if_neg (by omega), j2]
        congr 1
        exact bitsN_congr (fun i hi => by rw [if_pos hi])
      · rw [upd_at, if_neg (by omega), j4 _ (by omega) (by omega), i2 s hs, if_pos hs]
      · rw [upd_at, if_neg (by omega), j3 c hc, if_pos hc]
      · rw [upd_at, if_neg (by omega), j4 _ (by omega) (by omega), i3 _ (by omega)]; exact (p5 c hc).2
      · rw [upd_at, if_neg (by omega), j4 _ (by omega) (by omega), i3 _ (by omega)]
