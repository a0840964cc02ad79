/-! ===== who hears which when: missed, watch ===== -/
theorem zl2_esc {A B β : Type} {body : A → B → (A → B → Option β) → Option β} (I : Nat → A → B → Prop) (N : Nat) {P : β → Prop} (hs : ∀ i a b, i < N → I i a b → (∃ r, P r ∧ ∀ k, body a b k = some r) ∨ ∃ a' b', I (i + 1) a' b' ∧ ∀ k, body a b k = k a' b') (hx : ∀ a b, I N a b → ∀ k, ∃ r, body a b k = some r ∧ P r) : ∀ (d j f : Nat) (a : A) (b : B), d = N - j → j ≤ N → d < f → I j a b → ∃ r, zl2 body f a b = some r ∧ P r
  | d, j, 0, _, _, _, _, h, _ => absurd h (by omega)
  | d, j, f + 1, a, b, hd, hj, hf, hI => by
    show ∃ r, body a b (zl2 body f) = some r ∧ P r
    by_cases q : j = N
    · subst q; exact hx a b hI _
    · rcases hs j a b (by omega) hI with ⟨r, h1, h2⟩ | ⟨a', b', h1, h2⟩
      · exact ⟨r, h2 _, h1⟩
      · rw [h2]
        exact zl2_esc I N hs hx (d - 1) (j + 1) f a' b' (by omega) (by omega) (by omega) h1
theorem zl5_esc {A B C E G β : Type} {body : A → B → C → E → G → (A → B → C → E → G → Option β) → Option β} (I : Nat → A → B → C → E → G → Prop) (N : Nat) {P : β → Prop} (hs : ∀ i a b c e g, i < N → I i a b c e g → (∃ r, P r ∧ ∀ k, body a b c e g k = some r) ∨ ∃ a' b' c' e' g', I (i + 1) a' b' c' e' g' ∧ ∀ k, body a b c e g k = k a' b' c' e' g') (hx : ∀ a b c e g, I N a b c e g → ∀ k, ∃ r, body a b c e g k = some r ∧ P r) : ∀ (d j f : Nat) (a : A) (b : B) (c : C) (e : E) (g : G), d = N - j → j ≤ N → d < f → I j a b c e g → ∃ r, zl5 body f a b c e g = some r ∧ P r
  | d, j, 0, _, _, _, _, _, _, _, h, _ => absurd h (by omega)
  | d, j, f + 1, a, b, c, e, g, hd, hj, hf, hI => by
    show ∃ r, body a b c e g (zl5 body f) = some r ∧ P r
    by_cases q : j = N
    · subst q; exact hx a b c e g hI _
    · rcases hs j a b c e g (by omega) hI with ⟨r, h1, h2⟩ | ⟨a', b', c', e', g', h1, h2⟩
      · exact ⟨r, h2 _, h1⟩
      · rw [h2]
        exact zl5_esc I N hs hx (d - 1) (j + 1) f a' b' c' e' g' (by omega) (by omega) (by omega) h1
theorem zl8_esc {A1 A2 A3 A4 A5 A6 A7 A8 β : Type} {body : A1 → A2 → A3 → A4 → A5 → A6 → A7 → A8 → (A1 → A2 → A3 → A4 → A5 → A6 → A7 → A8 → Option β) → Option β} (I : Nat → A1 → A2 → A3 → A4 → A5 → A6 → A7 → A8 → Prop) (N : Nat) {P : β → Prop} (hs : ∀ i a1 a2 a3 a4 a5 a6 a7 a8, i < N → I i a1 a2 a3 a4 a5 a6 a7 a8 → (∃ r, P r ∧ ∀ k, body a1 a2 a3 a4 a5 a6 a7 a8 k = some r) ∨ ∃ b1 b2 b3 b4 b5 b6 b7 b8, I (i + 1) b1 b2 b3 b4 b5 b6 b7 b8 ∧ ∀ k, body a1 a2 a3 a4 a5 a6 a7 a8 k = k b1 b2 b3 b4 b5 b6 b7 b8) (hx : ∀ a1 a2 a3 a4 a5 a6 a7 a8, I N a1 a2 a3 a4 a5 a6 a7 a8 → ∀ k, ∃ r, body a1 a2 a3 a4 a5 a6 a7 a8 k = some r ∧ P r) : ∀ (d j f : Nat) (a1 : A1) (a2 : A2) (a3 : A3) (a4 : A4) (a5 : A5) (a6 : A6) (a7 : A7) (a8 : A8), d = N - j → j ≤ N → d < f → I j a1 a2 a3 a4 a5 a6 a7 a8 → ∃ r, zl8 body f a1 a2 a3 a4 a5 a6 a7 a8 = some r ∧ P r
  | d, j, 0, _, _, _, _, _, _, _, _, _, _, h, _ => absurd h (by omega)
  | d, j, f + 1, a1, a2, a3, a4, a5, a6, a7, a8, hd, hj, hf, hI => by
    show ∃ r, body a1 a2 a3 a4 a5 a6 a7 a8 (zl8 body f) = some r ∧ P r
    by_cases q : j = N
    · subst q; exact hx a1 a2 a3 a4 a5 a6 a7 a8 hI _
    · rcases hs j a1 a2 a3 a4 a5 a6 a7 a8 (by omega) hI with ⟨r, h1, h2⟩ | ⟨b1, b2, b3, b4, b5, b6, b7, b8, h1, h2⟩
      · exact ⟨r, h2 _, h1⟩
      · rw [h2]
        exact zl8_esc I N hs hx (d - 1) (j + 1) f b1 b2 b3 b4 b5 b6 b7 b8 (by omega) (by omega) (by omega) h1
theorem anyQ_iff {p : Nat → Bool} {n : Nat} : anyQ p n = true ↔ ∃ i, i < n ∧ p i = true := by
  induction n with
  | zero => simp [anyQ]
  | succ n ih =>
    simp only [anyQ, Bool.or_eq_true, ih]
    constructor
    · rintro (⟨s, h1, h2⟩ | h)
      · exact ⟨s, by omega, h2⟩
      · exact ⟨n, by omega, h⟩
    · rintro ⟨s, h1, h2⟩
      by_cases e : s = n
      · subst e; exact Or.inr h2
      · exact Or.inl ⟨s, by omega, h2⟩
theorem anyQ_congr {p q : Nat → Bool} {n : Nat} (h : ∀ i, i < n → p i = q i) : anyQ p n = anyQ q n := by
  induction n with
  | zero => rfl
  | succ n ih => simp only [anyQ]; rw [ih (fun i hi => h i (by omega)), h n (by omega)]
/-- hours to the breaking of a seep that is sound now, 0: it doesn't break -/
def dN (T : TA) (N : NA) (s : Nat) : Nat := if nF N s then 0 else (dueS T N s).toNatClampNeg
def bhV (T : TA) (N : NA) (s : Nat) : Int32 := if nF N s then -1 else dueS T N s
def brP (T : TA) (N : NA) : Nat → Bool := fun s => decide (0 < dN T N s)
def hrP (T : TA) (N : NA) (c s t : Nat) : Bool := (hearN T (hoursN T t N) c).testBit s
def HP (T : TA) (N : NA) (c s : Nat) : Bool := anyQ (hrP T N c s) (dN T N s)
theorem bhV_cases (T : TA) (N : NA) (s : Nat) : dN T N s ≤ 999 ∧ (bhV T N s = nI (dN T N s) ∨ (bhV T N s = -1 ∧ dN T N s = 0)) := by
  unfold dN bhV
  cases nF N s
  · rcases due_cases (fun t => nS (hoursN T t N) s) with ⟨t, t1, t2, t3, t4⟩ | ⟨t1, t2⟩
    · have e : dueS T N s = nI t := t4
      simp only [Bool.false_eq_true, if_false, e]
      rw [nI_clamp (by omega)]
      exact ⟨t1, Or.inl rfl⟩
    · have e : dueS T N s = -1 := t2
      simp only [Bool.false_eq_true, if_false, e]
      exact ⟨by decide, Or.inr ⟨trivial, by decide⟩⟩
  · exact ⟨by simp, Or.inr ⟨rfl, rfl⟩⟩
theorem bhV_pos (T : TA) (N : NA) (s : Nat) : (bhV T N s ≤ 0) = ¬ (0 < dN T N s) := by
  obtain ⟨h1, h2 | ⟨h2, h3⟩⟩ := bhV_cases T N s
  · rw [h2, le0N (by omega)]; exact propext (by omega)
  · rw [h2, h3]; exact propext ⟨fun _ => by omega, fun _ => by decide⟩
theorem brP_bh {T : TA} {N : NA} {s : Nat} (h : brP T N s = true) : bhV T N s = nI (dN T N s) := by
  have h : 0 < dN T N s := by simpa [brP] using h
  obtain ⟨h1, h2 | ⟨h2, h3⟩⟩ := bhV_cases T N s
  · exact h2
  · omega
theorem v_findBreaking {T : TA} {N : NA} {yards seeps children hours filled tl : Int32} {tides seepYard seepSize growth level kind childYard pace ear size yard oranges bh : Nat → Int32} (hT : okT T) (hN : okN T N 9999) (h1 : rT yards seeps children tides seepYard seepSize growth level kind childYard pace ear T) (h2 : rN hours filled tl size yard oranges T N) :
    ∃ g, F_X1_findBreaking seeps tides growth level hours filled size bh = some (nI (bitsN (tS T) (brP T N)), g) ∧ ∀ s, s < tS T → g s = bhV T N s := by
  have a3 : tS T ≤ 6 := hT.2.2.1
  have hb := bitsN_31 (n := tS T) (p := nF N) (by omega)
  refine ex_pair (P := fun (g : Nat → Int32) => ∀ s, s < tS T → g s = bhV T N s) ?_
  unfold F_X1_findBreaking
  refine zl3_inv (fun i x j g => x = nI (bitsN i (brP T N)) ∧ j = nI i ∧ ∀ s, s < i → g s = bhV T N s) (tS T) (fun i x j g hi hI => ?_) (fun x j g hI k => ?_) (tS T) 0 FU _ _ _ rfl (by omega) (by unfold FU; omega) ⟨rfl, rfl, fun s hs => by omega⟩
  · obtain ⟨rfl, rfl, i3⟩ := hI
    have htb : (bitsN (tS T) (nF N)).testBit i = nF N i := by rw [bitsN_test]; simp [hi]
    refine ⟨nI (bitsN (i + 1) (brP T N)), nI (i + 1), upd g i (bhV T N i), ⟨rfl, rfl, fun s hs => ?_⟩, fun k => ?_⟩
    · rw [upd_at]
      by_cases e : s = i
      · rw [if_pos e, e]
      · rw [if_neg e]; exact i3 s (by omega)
    · have fin : wr 6 (nI i) (upd g (nI i).toNatClampNeg (bhV T N i)) (fun g10 => rd 6 g10 (nI i) (fun v12 => zj1 (fun y14 => bd (nI (bitsN i (brP T N)) ||| y14) (fun v16 => bd (nI i + (1 : Int32)) (fun v17 => k v16 v17 g10))) (fun K15 => if v12 ≤ 0 then (K15 (0 : Int32)) else (K15 ((1 : Int32) <<< (nI i &&& 31)))))) = k (nI (bitsN (i + 1) (brP T N))) (nI (i + 1)) (upd g i (bhV T N i)) := by
        rw [← bitsN_or i (brP T N)]
        have e0 : upd g i (bhV T N i) i = bhV T N i := by rw [upd_at, if_pos rfl]
        simp (disch := omega) only [wrN, rdN, nI_clamp, e0, bhV_pos, zj1, shl1, bdE, nI_1]
        unfold brP
        by_cases h : 0 < dN T N i
        · simp [h, fa_or]
        · simp [h, or0]
      rw [if_neg (by rw [show seeps = nI (tS T) from h1.2.1]; exact nI_ge hi (by omega)), show filled = _ from h2.2.1, v_isFilled (by omega) (by omega), zc1_e, htb]
      simp only [zj1] at fin ⊢
      cases hf : nF N i
      · obtain ⟨D, hD⟩ : ∃ D, D = dueS T N i := ⟨_, rfl⟩
        have e : bhV T N i = D := by unfold bhV; rw [hf, if_neg (by decide), hD]
        rw [v_hoursToBreak hT hN hi hf h2.1 h1.2.2.2.1 (h1.2.2.2.2.1 i hi).2.2.1 (h1.2.2.2.2.1 i hi).2.2.2 (h2.2.2.2.1 i hi), zc1_e, ← hD]
        rw [e] at fin
        rw [e]
        simp only [Bool.false_eq_true, if_false, eq00, if_true]
        exact fin
      · have e : bhV T N i = -1 := by unfold bhV; rw [hf, if_pos rfl]
        rw [e] at fin
        rw [e]
        simp only [ne10, if_true, if_false]
        exact fin
  · obtain ⟨rfl, rfl, i3⟩ := hI
    rw [if_pos (by rw [show seeps = nI (tS T) from h1.2.1]; exact nI_le (Nat.le_refl _) (by omega))]
    exact ⟨_, rfl, rfl, i3⟩
