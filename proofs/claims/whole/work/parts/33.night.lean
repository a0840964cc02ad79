/-! ===== an hour, on both sides ===== -/
theorem zl1_inv {A β : Type} {body : A → (A → Option β) → Option β} (I : Nat → A → Prop) (N : Nat) {P : β → Prop} (hs : ∀ i a, i < N → I i a → ∃ a', I (i + 1) a' ∧ ∀ k, body a k = k a') (hx : ∀ a, I N a → ∀ k, ∃ r, body a k = some r ∧ P r) : ∀ (d j f : Nat) (a : A), d = N - j → j ≤ N → d < f → I j a → ∃ r, zl1 body f a = some r ∧ P r
  | d, j, 0, _, _, _, h, _ => absurd h (by omega)
  | d, j, f + 1, a, hd, hj, hf, hI => by
    show ∃ r, body a (zl1 body f) = some r ∧ P r
    by_cases e : j = N
    · subst e; exact hx a hI _
    · obtain ⟨a', h1, h2⟩ := hs j a (by omega) hI
      rw [h2]
      exact zl1_inv I N hs hx (d - 1) (j + 1) f a' (by omega) (by omega) (by omega) h1
theorem zl2_inv {A B β : Type} {body : A → B → (A → B → Option β) → Option β} (I : Nat → A → B → Prop) (N : Nat) {P : β → Prop} (hs : ∀ i a b, i < N → I i a b → ∃ a' b', I (i + 1) a' b' ∧ ∀ k, body a b k = k a' b') (hx : ∀ a b, I N a b → ∀ k, ∃ r, body a b k = some r ∧ P r) : ∀ (d j f : Nat) (a : A) (b : B), d = N - j → j ≤ N → d < f → I j a b → ∃ r, zl2 body f a b = some r ∧ P r
  | d, j, 0, _, _, _, _, h, _ => absurd h (by omega)
  | d, j, f + 1, a, b, hd, hj, hf, hI => by
    show ∃ r, body a b (zl2 body f) = some r ∧ P r
    by_cases e : j = N
    · subst e; exact hx a b hI _
    · obtain ⟨a', b', h1, h2⟩ := hs j a b (by omega) hI
      rw [h2]
      exact zl2_inv I N hs hx (d - 1) (j + 1) f a' b' (by omega) (by omega) (by omega) h1
theorem zl3_inv {A B C β : Type} {body : A → B → C → (A → B → C → Option β) → Option β} (I : Nat → A → B → C → Prop) (N : Nat) {P : β → Prop} (hs : ∀ i a b c, i < N → I i a b c → ∃ a' b' c', I (i + 1) a' b' c' ∧ ∀ k, body a b c k = k a' b' c') (hx : ∀ a b c, I N a b c → ∀ k, ∃ r, body a b c k = some r ∧ P r) : ∀ (d j f : Nat) (a : A) (b : B) (c : C), d = N - j → j ≤ N → d < f → I j a b c → ∃ r, zl3 body f a b c = some r ∧ P r
  | d, j, 0, _, _, _, _, _, h, _ => absurd h (by omega)
  | d, j, f + 1, a, b, c, hd, hj, hf, hI => by
    show ∃ r, body a b c (zl3 body f) = some r ∧ P r
    by_cases e : j = N
    · subst e; exact hx a b c hI _
    · obtain ⟨a', b', c', h1, h2⟩ := hs j a b c (by omega) hI
      rw [h2]
      exact zl3_inv I N hs hx (d - 1) (j + 1) f a' b' c' (by omega) (by omega) (by omega) h1
theorem zl5_inv {A B C E G β : Type} {body : A → B → C → E → G → (A → B → C → E → G → Option β) → Option β} (I : Nat → A → B → C → E → G → Prop) (N : Nat) {P : β → Prop} (hs : ∀ i a b c e g, i < N → I i a b c e g → ∃ a' b' c' e' g', I (i + 1) a' b' c' e' g' ∧ ∀ k, body a b c e g k = k a' b' c' e' g') (hx : ∀ a b c e g, I N a b c e g → ∀ k, ∃ r, body a b c e g k = some r ∧ P r) : ∀ (d j f : Nat) (a : A) (b : B) (c : C) (e : E) (g : G), d = N - j → j ≤ N → d < f → I j a b c e g → ∃ r, zl5 body f a b c e g = some r ∧ P r
  | d, j, 0, _, _, _, _, _, _, _, h, _ => absurd h (by omega)
  | d, j, f + 1, a, b, c, e, g, hd, hj, hf, hI => by
    show ∃ r, body a b c e g (zl5 body f) = some r ∧ P r
    by_cases q : j = N
    · subst q; exact hx a b c e g hI _
    · obtain ⟨a', b', c', e', g', h1, h2⟩ := hs j a b c e g (by omega) hI
      rw [h2]
      exact zl5_inv I N hs hx (d - 1) (j + 1) f a' b' c' e' g' (by omega) (by omega) (by omega) h1
/-- one child's walk: his bit and his yard alone change -/
theorem v_walk {T : TA} {N : NA} {yards tl : Int32} {pace yard : Nat → Int32} {c : Nat} {D : Nat → Bool} {M : Nat → Nat} (hT : okT T) (hc : c < tC T) (hy : yards = nI (tY T)) (hp : pace c = nI (tPc T c)) (htl : tl = nI (bitsN (tC T) D)) (hyd : yard c = nI (M c)) (hM : M c < tY T) :
    ∃ r, F_X3_walk yards pace tl yard (nI c) = some r ∧ r.1 = nI (bitsN (tC T) (fun i => if i = c then (wkC (tY T) (tPc T c) (D c, M c)).1 else D i)) ∧ r.2 c = nI (wkC (tY T) (tPc T c) (D c, M c)).2 ∧ ∀ j, j ≠ c → r.2 j = yard j := by
  obtain ⟨a1, a2, a3, a4, a5, a6, a7⟩ := hT
  obtain ⟨b1, b2, b3, b4⟩ := a7 c hc
  unfold F_X3_walk
  refine zl3_inv (fun i x t y => x = nI i ∧ t = nI (bitsN (tC T) (fun j => if j = c then (wkC (tY T) i (D c, M c)).1 else D j)) ∧ y c = nI (wkC (tY T) i (D c, M c)).2 ∧ ∀ j, j ≠ c → y j = yard j) (tPc T c) (fun i x t y hi hI => ?_) (fun x t y hI k => ?_) (tPc T c) 0 FU _ _ _ rfl (by omega) (by unfold FU; omega) ⟨rfl, ?_, hyd, fun _ _ => rfl⟩
  · obtain ⟨rfl, rfl, i3, i4⟩ := hI
    have hlt : (wkC (tY T) i (D c, M c)).2 < tY T := wkC_lt (by omega) i hM
    have hstep : wkC (tY T) (i + 1) (D c, M c) = stepC (tY T) (wkC (tY T) i (D c, M c)) := rfl
    rw [hstep]
    generalize wkC (tY T) i (D c, M c) = q at hlt i3 ⊢
    obtain ⟨b, z⟩ := q
    have hlt : z < tY T := hlt
    have i3 : y c = nI z := i3
    have hbt := bitsN_31 (n := tC T) (p := fun j => if j = c then b else D j) (by omega)
    have htb : (bitsN (tC T) (fun j => if j = c then b else D j)).testBit c = b := by rw [bitsN_test]; simp [hc]
    have hx := bitsN_xor (fun j => if j = c then b else D j) hc
    have hx2 : (fun i_1 => if i_1 = c then !(if i_1 = c then b else D i_1) else (if i_1 = c then b else D i_1)) = fun j => if j = c then !b else D j := by
      funext j; by_cases e : j = c <;> simp [e]
    rw [hx2] at hx
    have hbt2 := bitsN_31 (n := tC T) (p := fun j => if j = c then !b else D j) (by omega)
    have htb2 : (bitsN (tC T) (fun j => if j = c then !b else D j)).testBit c = !b := by rw [bitsN_test]; simp [hc]
    have e1 : ∀ w, 0 < w → nI w + (-1 : Int32) = nI (w - 1) := by
      intro w h
      obtain ⟨w, rfl⟩ : ∃ u, w = u + 1 := ⟨w - 1, by omega⟩
      rw [pk_m1]; rfl
    refine ⟨nI (i + 1), nI (bitsN (tC T) (fun j => if j = c then (stepC (tY T) (b, z)).1 else D j)), upd y c (nI (stepC (tY T) (b, z)).2), ⟨rfl, rfl, by simp [upd], fun j hj => by rw [upd_at, if_neg hj]; exact i4 j hj⟩, fun k => ?_⟩
    simp (disch := omega) only [hp, hy, i3, leN, show ¬ tPc T c ≤ i by omega, if_false, v_goesToLesser, htb, shl1, fa_xor, hx, subN1, zj0, zj1, zj2, zj3, zj4, zj9, bdE, nI_add, pk_mul, pk_sub, rdN, wrN, zc0_e, zc1_e, zc2_e, zc3_e, zc4_e, zc5_e, nI_1, nI_clamp, bzp, ne10, eq00, ne01, eq11, if_true, if_false, or0, ckZ1, ckZ0, ckZp, L2, L3, L4, L5, L6, L7, L8, L9, L10, L11, L12, L13, L18, L19, L23, L24, L32, L48, L57, L59, L76, L96, L97, L99, L100, L122, L120, L200, L999, L9999]
    unfold stepC
    cases b
    · by_cases e : z = tY T - 1
      · simp (disch := omega) only [eqN, e, if_true, if_false, Bool.false_eq_true, Bool.not_false, not_false_iff, not_true, v_goesToLesser, e1, zj0, zj1, zj2, zj3, zj4, zj9, bdE, nI_add, pk_mul, pk_sub, rdN, wrN, zc0_e, zc1_e, zc2_e, zc3_e, zc4_e, zc5_e, nI_1, nI_clamp, bzp, ne10, eq00, ne01, eq11, if_true, if_false, or0, ckZ1, ckZ0, ckZp, L2, L3, L4, L5, L6, L7, L8, L9, L10, L11, L12, L13, L18, L19, L23, L24, L32, L48, L57, L59, L76, L96, L97, L99, L100, L122, L120, L200, L999, L9999] at htb2 ⊢
        simp only [htb2, not_true_eq_false, Bool.false_eq_true, not_false_eq_true, if_true, if_false]
      · simp (disch := omega) only [eqN, e, if_true, if_false, Bool.false_eq_true, Bool.not_false, not_false_iff, not_true, v_goesToLesser, htb, e1, zj0, zj1, zj2, zj3, zj4, zj9, bdE, nI_add, pk_mul, pk_sub, rdN, wrN, zc0_e, zc1_e, zc2_e, zc3_e, zc4_e, zc5_e, nI_1, nI_clamp, bzp, ne10, eq00, ne01, eq11, if_true, if_false, or0, ckZ1, ckZ0, ckZp, L2, L3, L4, L5, L6, L7, L8, L9, L10, L11, L12, L13, L18, L19, L23, L24, L32, L48, L57, L59, L76, L96, L97, L99, L100, L122, L120, L200, L999, L9999]
    · by_cases e : z = 0
      · simp (disch := omega) only [eq0N, e, if_true, if_false, Bool.true_eq_false, Bool.not_true, not_false_iff, not_true, v_goesToLesser, e1, zj0, zj1, zj2, zj3, zj4, zj9, bdE, nI_add, pk_mul, pk_sub, rdN, wrN, zc0_e, zc1_e, zc2_e, zc3_e, zc4_e, zc5_e, nI_1, nI_clamp, bzp, ne10, eq00, ne01, eq11, if_true, if_false, or0, ckZ1, ckZ0, ckZp, L2, L3, L4, L5, L6, L7, L8, L9, L10, L11, L12, L13, L18, L19, L23, L24, L32, L48, L57, L59, L76, L96, L97, L99, L100, L122, L120, L200, L999, L9999] at htb2 ⊢
        simp only [htb2, not_true_eq_false, Bool.false_eq_true, not_false_eq_true, if_true, if_false]
      · simp (disch := omega) only [eq0N, e, if_true, if_false, Bool.true_eq_false, Bool.not_true, not_false_iff, not_true, v_goesToLesser, htb, e1, zj0, zj1, zj2, zj3, zj4, zj9, bdE, nI_add, pk_mul, pk_sub, rdN, wrN, zc0_e, zc1_e, zc2_e, zc3_e, zc4_e, zc5_e, nI_1, nI_clamp, bzp, ne10, eq00, ne01, eq11, if_true, if_false, or0, ckZ1, ckZ0, ckZp, L2, L3, L4, L5, L6, L7, L8, L9, L10, L11, L12, L13, L18, L19, L23, L24, L32, L48, L57, L59, L76, L96, L97, L99, L100, L122, L120, L200, L999, L9999]
  · obtain ⟨rfl, rfl, i3, i4⟩ := hI
    simp (disch := omega) only [hp, leN, Nat.le_refl, if_true, zj0, zj1, zj2, zj3, zj4, zj9, bdE, nI_add, pk_mul, pk_sub, rdN, wrN, zc0_e, zc1_e, zc2_e, zc3_e, zc4_e, zc5_e, nI_1, nI_clamp, bzp, ne10, eq00, ne01, eq11, if_true, if_false, or0, ckZ1, ckZ0, ckZp, L2, L3, L4, L5, L6, L7, L8, L9, L10, L11, L12, L13, L18, L19, L23, L24, L32, L48, L57, L59, L76, L96, L97, L99, L100, L122, L120, L200, L999, L9999]
    exact ⟨_, rfl, rfl, i3, i4⟩
  · rw [htl]
    congr 2
    funext j
    by_cases e : j = c
    · subst e; simp [wkC]
    · simp [e]
theorem zl1_ex {κ A β : Type} {body : κ → A → (A → Option β) → Option β} (I : Nat → A → Prop) (N : Nat) (hs : ∀ (i : Nat) (a : A), i < N → I i a → ∃ a', I (i + 1) a' ∧ ∀ q k, body q a k = k a') : ∀ (d j : Nat) (a : A), d = N - j → j ≤ N → I j a → ∃ a', I N a' ∧ ∀ (q : κ) (f : Nat), d < f → ∃ k, zl1 (body q) f a = body q a' k
  | 0, j, a, hd, hj, hI => ⟨a, (show j = N by omega) ▸ hI, fun q f hf => by
      obtain ⟨f, rfl⟩ : ∃ w, f = w + 1 := ⟨f - 1, by omega⟩
      exact ⟨_, rfl⟩⟩
  | d + 1, j, a, hd, hj, hI => by
    obtain ⟨a', h1, h2⟩ := hs j a (by omega) hI
    obtain ⟨a2, h3, h4⟩ := zl1_ex I N hs d (j + 1) a' (by omega) (by omega) h1
    refine ⟨a2, h3, fun q f hf => ?_⟩
    obtain ⟨f, rfl⟩ : ∃ w, f = w + 1 := ⟨f - 1, by omega⟩
    obtain ⟨k, h5⟩ := h4 q f (by omega)
    refine ⟨k, ?_⟩
    show body q a (zl1 (body q) f) = _
    rw [h2]
    exact h5
theorem zl2_ex {κ A B β : Type} {body : κ → A → B → (A → B → Option β) → Option β} (I : Nat → A → B → Prop) (N : Nat) (hs : ∀ (i : Nat) (a : A) (b : B), i < N → I i a b → ∃ a' b', I (i + 1) a' b' ∧ ∀ q k, body q a b k = k a' b') : ∀ (d j : Nat) (a : A) (b : B), d = N - j → j ≤ N → I j a b → ∃ a' b', I N a' b' ∧ ∀ (q : κ) (f : Nat), d < f → ∃ k, zl2 (body q) f a b = body q a' b' k
  | 0, j, a, b, hd, hj, hI => ⟨a, b, (show j = N by omega) ▸ hI, fun q f hf => by
      obtain ⟨f, rfl⟩ : ∃ w, f = w + 1 := ⟨f - 1, by omega⟩
      exact ⟨_, rfl⟩⟩
  | d + 1, j, a, b, hd, hj, hI => by
    obtain ⟨a', b', h1, h2⟩ := hs j a b (by omega) hI
    obtain ⟨a2, b2, h3, h4⟩ := zl2_ex I N hs d (j + 1) a' b' (by omega) (by omega) h1
    refine ⟨a2, b2, h3, fun q f hf => ?_⟩
    obtain ⟨f, rfl⟩ : ∃ w, f = w + 1 := ⟨f - 1, by omega⟩
    obtain ⟨k, h5⟩ := h4 q f (by omega)
    refine ⟨k, ?_⟩
    show body q a b (zl2 (body q) f) = _
    rw [h2]
    exact h5
theorem zl3_ex {κ A B C β : Type} {body : κ → A → B → C → (A → B → C → Option β) → Option β} (I : Nat → A → B → C → Prop) (N : Nat) (hs : ∀ (i : Nat) (a : A) (b : B) (c : C), i < N → I i a b c → ∃ a' b' c', I (i + 1) a' b' c' ∧ ∀ q k, body q a b c k = k a' b' c') : ∀ (d j : Nat) (a : A) (b : B) (c : C), d = N - j → j ≤ N → I j a b c → ∃ a' b' c', I N a' b' c' ∧ ∀ (q : κ) (f : Nat), d < f → ∃ k, zl3 (body q) f a b c = body q a' b' c' k
  | 0, j, a, b, c, hd, hj, hI => ⟨a, b, c, (show j = N by omega) ▸ hI, fun q f hf => by
      obtain ⟨f, rfl⟩ : ∃ w, f = w + 1 := ⟨f - 1, by omega⟩
      exact ⟨_, rfl⟩⟩
  | d + 1, j, a, b, c, hd, hj, hI => by
    obtain ⟨a', b', c', h1, h2⟩ := hs j a b c (by omega) hI
    obtain ⟨a2, b2, c2, h3, h4⟩ := zl3_ex I N hs d (j + 1) a' b' c' (by omega) (by omega) h1
    refine ⟨a2, b2, c2, h3, fun q f hf => ?_⟩
    obtain ⟨f, rfl⟩ : ∃ w, f = w + 1 := ⟨f - 1, by omega⟩
    obtain ⟨k, h5⟩ := h4 q f (by omega)
    refine ⟨k, ?_⟩
    show body q a b c (zl3 (body q) f) = _
    rw [h2]
    exact h5
theorem zl4_ex {κ A B C E β : Type} {body : κ → A → B → C → E → (A → B → C → E → Option β) → Option β} (I : Nat → A → B → C → E → Prop) (N : Nat) (hs : ∀ (i : Nat) (a : A) (b : B) (c : C) (e : E), i < N → I i a b c e → ∃ a' b' c' e', I (i + 1) a' b' c' e' ∧ ∀ q k, body q a b c e k = k a' b' c' e') : ∀ (d j : Nat) (a : A) (b : B) (c : C) (e : E), d = N - j → j ≤ N → I j a b c e → ∃ a' b' c' e', I N a' b' c' e' ∧ ∀ (q : κ) (f : Nat), d < f → ∃ k, zl4 (body q) f a b c e = body q a' b' c' e' k
  | 0, j, a, b, c, e, hd, hj, hI => ⟨a, b, c, e, (show j = N by omega) ▸ hI, fun q f hf => by
      obtain ⟨f, rfl⟩ : ∃ w, f = w + 1 := ⟨f - 1, by omega⟩
      exact ⟨_, rfl⟩⟩
  | d + 1, j, a, b, c, e, hd, hj, hI => by
    obtain ⟨a', b', c', e', h1, h2⟩ := hs j a b c e (by omega) hI
    obtain ⟨a2, b2, c2, e2, h3, h4⟩ := zl4_ex I N hs d (j + 1) a' b' c' e' (by omega) (by omega) h1
    refine ⟨a2, b2, c2, e2, h3, fun q f hf => ?_⟩
    obtain ⟨f, rfl⟩ : ∃ w, f = w + 1 := ⟨f - 1, by omega⟩
    obtain ⟨k, h5⟩ := h4 q f (by omega)
    refine ⟨k, ?_⟩
    show body q a b c e (zl4 (body q) f) = _
    rw [h2]
    exact h5
theorem zl5_ex {κ A B C E G β : Type} {body : κ → A → B → C → E → G → (A → B → C → E → G → Option β) → Option β} (I : Nat → A → B → C → E → G → Prop) (N : Nat) (hs : ∀ (i : Nat) (a : A) (b : B) (c : C) (e : E) (g : G), i < N → I i a b c e g → ∃ a' b' c' e' g', I (i + 1) a' b' c' e' g' ∧ ∀ q k, body q a b c e g k = k a' b' c' e' g') : ∀ (d j : Nat) (a : A) (b : B) (c : C) (e : E) (g : G), d = N - j → j ≤ N → I j a b c e g → ∃ a' b' c' e' g', I N a' b' c' e' g' ∧ ∀ (q : κ) (f : Nat), d < f → ∃ k, zl5 (body q) f a b c e g = body q a' b' c' e' g' k
  | 0, j, a, b, c, e, g, hd, hj, hI => ⟨a, b, c, e, g, (show j = N by omega) ▸ hI, fun q f hf => by
      obtain ⟨f, rfl⟩ : ∃ w, f = w + 1 := ⟨f - 1, by omega⟩
      exact ⟨_, rfl⟩⟩
  | d + 1, j, a, b, c, e, g, hd, hj, hI => by
    obtain ⟨a', b', c', e', g', h1, h2⟩ := hs j a b c e g (by omega) hI
    obtain ⟨a2, b2, c2, e2, g2, h3, h4⟩ := zl5_ex I N hs d (j + 1) a' b' c' e' g' (by omega) (by omega) h1
    refine ⟨a2, b2, c2, e2, g2, h3, fun q f hf => ?_⟩
    obtain ⟨f, rfl⟩ : ∃ w, f = w + 1 := ⟨f - 1, by omega⟩
    obtain ⟨k, h5⟩ := h4 q f (by omega)
    refine ⟨k, ?_⟩
    show body q a b c e g (zl5 (body q) f) = _
    rw [h2]
    exact h5
theorem zl6_ex {κ A B C E G J β : Type} {body : κ → A → B → C → E → G → J → (A → B → C → E → G → J → Option β) → Option β} (I : Nat → A → B → C → E → G → J → Prop) (N : Nat) (hs : ∀ (i : Nat) (a : A) (b : B) (c : C) (e : E) (g : G) (w : J), i < N → I i a b c e g w → ∃ a' b' c' e' g' w', I (i + 1) a' b' c' e' g' w' ∧ ∀ q k, body q a b c e g w k = k a' b' c' e' g' w') : ∀ (d j : Nat) (a : A) (b : B) (c : C) (e : E) (g : G) (w : J), d = N - j → j ≤ N → I j a b c e g w → ∃ a' b' c' e' g' w', I N a' b' c' e' g' w' ∧ ∀ (q : κ) (f : Nat), d < f → ∃ k, zl6 (body q) f a b c e g w = body q a' b' c' e' g' w' k
  | 0, j, a, b, c, e, g, w, hd, hj, hI => ⟨a, b, c, e, g, w, (show j = N by omega) ▸ hI, fun q f hf => by
      obtain ⟨f, rfl⟩ : ∃ w, f = w + 1 := ⟨f - 1, by omega⟩
      exact ⟨_, rfl⟩⟩
  | d + 1, j, a, b, c, e, g, w, hd, hj, hI => by
    obtain ⟨a', b', c', e', g', w', h1, h2⟩ := hs j a b c e g w (by omega) hI
    obtain ⟨a2, b2, c2, e2, g2, w2, h3, h4⟩ := zl6_ex I N hs d (j + 1) a' b' c' e' g' w' (by omega) (by omega) h1
    refine ⟨a2, b2, c2, e2, g2, w2, h3, fun q f hf => ?_⟩
    obtain ⟨f, rfl⟩ : ∃ w, f = w + 1 := ⟨f - 1, by omega⟩
    obtain ⟨k, h5⟩ := h4 q f (by omega)
    refine ⟨k, ?_⟩
    show body q a b c e g w (zl6 (body q) f) = _
    rw [h2]
    exact h5
theorem v_growSeeps {T : TA} {seeps hours filled : Int32} {tides growth level size : Nat → Int32} {h : Nat} {Fl : Nat → Bool} {Z : Nat → Nat} (hT : okT T) (h1 : seeps = nI (tS T)) (h2 : ∀ h, h < 12 → tides h = nI (tTd T h)) (h3 : ∀ s, s < tS T → growth s = nI (tGr T s) ∧ level s = nI (tLv T s)) (hh : hours = nI h) (hlt : h < 2 ^ 31) (hf : filled = nI (bitsN (tS T) Fl)) (hz : ∀ s, s < tS T → size s = nI (Z s) ∧ Z s ≤ 100) :
    ∃ r, F_X3_growSeeps seeps tides growth level hours filled size = some r ∧ ∀ s, s < tS T → r s = nI (if Fl s then Z s else grownN T h s (Z s)) := by
  have a3 : tS T ≤ 6 := hT.2.2.1
  unfold F_X3_growSeeps
  refine zl2_inv (fun i x z => x = nI i ∧ ∀ s, s < tS T → z s = nI (if s < i then (if Fl s then Z s else grownN T h s (Z s)) else Z s)) (tS T) (fun i x z hi hI => ?_) (fun x z hI k => ?_) (tS T) 0 FU _ _ rfl (by omega) (by unfold FU; omega) ⟨rfl, fun s hs => by simpa using (hz s hs).1⟩
  · obtain ⟨rfl, i2⟩ := hI
    have hb := bitsN_31 (n := tS T) (p := Fl) (by omega)
    have htb : (bitsN (tS T) Fl).testBit i = Fl i := by rw [bitsN_test]; simp [hi]
    have i3 := i2 i hi
    rw [if_neg (Nat.lt_irrefl i)] at i3
    have g := v_grown hT hi hlt (hz i hi).2 h2 (h3 i hi).1 (h3 i hi).2
    cases hF : Fl i
    · refine ⟨nI (i + 1), upd z i (nI (grownN T h i (Z i))), ⟨rfl, fun s hs => ?_⟩, fun k => ?_⟩
      · rw [upd_at]
        by_cases e : s = i
        · subst e; simp [hF]
        · rw [if_neg e, i2 s hs]
          by_cases e2 : s < i
          · simp only [e2, show s < i + 1 by omega, if_true]
          · simp only [e2, show ¬ s < i + 1 by omega, if_false]
      · rw [hF] at htb
        simp (disch := omega) only [h1, hf, hh, leN, show ¬ tS T ≤ i by omega, if_false, v_isFilled, htb, Bool.false_eq_true, not_false_eq_true, if_true, i3, g, zj0, zj1, zj2, zj3, zj4, zj9, bdE, nI_add, pk_mul, pk_sub, rdN, wrN, zc0_e, zc1_e, zc2_e, zc3_e, zc4_e, zc5_e, nI_1, nI_clamp, bzp, ne10, eq00, ne01, eq11, if_true, if_false, or0, ckZ1, ckZ0, ckZp, L2, L3, L4, L5, L6, L7, L8, L9, L10, L11, L12, L13, L18, L19, L23, L24, L32, L48, L57, L59, L76, L96, L97, L99, L100, L122, L120, L200, L999, L9999]
    · refine ⟨nI (i + 1), z, ⟨rfl, fun s hs => ?_⟩, fun k => ?_⟩
      · rw [i2 s hs]
        by_cases e : s = i
        · subst e; simp [hF]
        · by_cases e2 : s < i
          · simp only [e2, show s < i + 1 by omega, if_true]
          · simp only [e2, show ¬ s < i + 1 by omega, if_false]
      · rw [hF] at htb
        simp (disch := omega) only [h1, hf, hh, leN, show ¬ tS T ≤ i by omega, if_false, v_isFilled, htb, not_true_eq_false, if_true, zj0, zj1, zj2, zj3, zj4, zj9, bdE, nI_add, pk_mul, pk_sub, rdN, wrN, zc0_e, zc1_e, zc2_e, zc3_e, zc4_e, zc5_e, nI_1, nI_clamp, bzp, ne10, eq00, ne01, eq11, if_true, if_false, or0, ckZ1, ckZ0, ckZp, L2, L3, L4, L5, L6, L7, L8, L9, L10, L11, L12, L13, L18, L19, L23, L24, L32, L48, L57, L59, L76, L96, L97, L99, L100, L122, L120, L200, L999, L9999]
  · obtain ⟨rfl, i2⟩ := hI
    simp (disch := omega) only [h1, leN, Nat.le_refl, if_true]
    exact ⟨_, rfl, fun s hs => by rw [i2 s hs, if_pos hs]⟩
