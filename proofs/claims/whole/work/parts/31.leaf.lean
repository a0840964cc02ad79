/-! ===== leaves ===== -/
theorem v_hasBit {n i : Nat} (hn : n < 2 ^ 31) (hi : i < 32) : F_X8_hasBit (nI n) (nI i) = some (if n.testBit i then 1 else 0) := by
  unfold F_X8_hasBit
  rw [hasN hn hi]
  cases n.testBit i <;> rfl
theorem v_has {n i : Nat} (hn : n < 2 ^ 31) (hi : i < 32) : F_X9_has (nI n) (nI i) = some (if n.testBit i then 1 else 0) := by
  unfold F_X9_has
  rw [hasN hn hi]
  cases n.testBit i <;> rfl
theorem v_isFilled {n i : Nat} (hn : n < 2 ^ 31) (hi : i < 32) : F_X3_isFilled (nI n) (nI i) = some (if n.testBit i then 1 else 0) := by
  unfold F_X3_isFilled
  rw [v_hasBit hn hi]
  cases n.testBit i <;> rfl
theorem v_goesToLesser {n i : Nat} (hn : n < 2 ^ 31) (hi : i < 32) : F_X3_goesToLesser (nI n) (nI i) = some (if n.testBit i then 1 else 0) := by
  unfold F_X3_goesToLesser
  rw [v_hasBit hn hi]
  cases n.testBit i <;> rfl
theorem v_reaches {e a b : Nat} (he : e < 2 ^ 30) (ha : a < 2 ^ 30) (hb : b < 2 ^ 30) : F_X8_reaches (nI e) (nI a) (nI b) = some (if dist a b ≤ e then 1 else 0) := by
  unfold F_X8_reaches
  have hd : dist a b < 2 ^ 30 := dist_lt ha hb
  rw [absN ha hb, bdE]
  by_cases h : dist a b ≤ e
  · rw [if_pos h, if_neg (nI_nlt h (by omega))]
  · rw [if_neg h, if_pos (nI_lt (by omega) (by omega))]
theorem v_far {a b : Nat} (ha : a < 2 ^ 30) (hb : b < 2 ^ 30) : F_X9_far (nI a) (nI b) = some (nI (dist a b)) := by
  unfold F_X9_far dist
  by_cases h : b ≤ a
  · rw [if_pos (nI_le h (by omega)), pk_sub h]
    by_cases e : a ≤ b
    · rw [if_pos e, show b - a = a - b by omega]
    · rw [if_neg e]
  · rw [if_neg (nI_ge (by omega) (by omega)), pk_sub (by omega), if_pos (by omega)]
/-- seeps that are heard -/
def heardP (fl : Nat) (sy : Nat → Nat) (y e : Nat) : Nat → Bool := fun s => !fl.testBit s && decide (dist y (sy s) ≤ e)
theorem v_heardFrom {S fl y e : Nat} {sy : Nat → Nat} {f : Nat → Int32} (hS : S ≤ 6) (hfl : fl < 2 ^ 31) (hy : y < 2 ^ 30) (he : e < 2 ^ 30) (hf : ∀ s, s < S → f s = nI (sy s) ∧ sy s < 2 ^ 30) :
    F_X3_heardFrom (nI S) f (nI fl) (nI y) (nI e) = some (nI (bitsN S (heardP fl sy y e))) := by
  unfold F_X3_heardFrom
  refine zl2_for (fun i => nI (bitsN i (heardP fl sy y e))) (fun i => nI i) S (fun i hi k => ?_) (fun k => ?_) S 0 FU rfl (by omega) (by unfold FU; omega)
  · obtain ⟨e1, e2⟩ := hf i hi
    rw [← bitsN_or i (heardP fl sy y e)]
    simp (disch := omega) only [leN, show ¬ S ≤ i by omega, if_false, v_isFilled, e1, v_reaches, shl1, fa_or, zj0, zj1, zj2, zj3, zj4, zj9, bdE, nI_add, pk_mul, pk_sub, rdN, wrN, zc0_e, zc1_e, zc2_e, zc3_e, zc4_e, zc5_e, nI_1, nI_clamp, bzp, ne10, eq00, ne01, eq11, if_true, if_false, or0, ckZ1, ckZ0, ckZp, L2, L3, L4, L5, L6, L7, L8, L9, L10, L11, L12, L13, L18, L19, L23, L24, L32, L48, L57, L59, L76, L96, L97, L99, L100, L122, L120, L200, L999, L9999]
    unfold heardP
    cases fl.testBit i <;> by_cases h : dist y (sy i) ≤ e <;> simp [h]
  · simp (disch := omega) only [leN, Nat.le_refl, if_true]
theorem v_heardAt {S fl y e base : Nat} {sy : Nat → Nat} {row seeps : Nat → Int32} (hS : S ≤ 6) (hfl : fl < 2 ^ 31) (hb : base ≤ 76) (hr : row (base + 6) = nI fl) (hy : y < 2 ^ 30) (he : e < 2 ^ 30) (hf : ∀ s, s < S → seeps (3 * s) = nI (sy s) ∧ sy s < 2 ^ 30) :
    F_X9_heardAt (nI S) row seeps (nI base) (nI y) (nI e) = some (nI (bitsN S (heardP fl sy y e))) := by
  unfold F_X9_heardAt
  refine zl2_for (fun i => nI (bitsN i (heardP fl sy y e))) (fun i => nI i) S (fun i hi k => ?_) (fun k => ?_) S 0 FU rfl (by omega) (by unfold FU; omega)
  · obtain ⟨e1, e2⟩ := hf i hi
    have hd : dist y (sy i) < 2 ^ 30 := dist_lt hy e2
    rw [← bitsN_or i (heardP fl sy y e)]
    simp (disch := omega) only [leN, ltN, show ¬ S ≤ i by omega, if_false, v_has, hr, e1, v_far, shl1, fa_or, zj0, zj1, zj2, zj3, zj4, zj9, bdE, nI_add, pk_mul, pk_sub, rdN, wrN, zc0_e, zc1_e, zc2_e, zc3_e, zc4_e, zc5_e, nI_1, nI_clamp, bzp, ne10, eq00, ne01, eq11, if_true, if_false, or0, ckZ1, ckZ0, ckZp, L2, L3, L4, L5, L6, L7, L8, L9, L10, L11, L12, L13, L18, L19, L23, L24, L32, L48, L57, L59, L76, L96, L97, L99, L100, L122, L120, L200, L999, L9999]
    unfold heardP
    cases fl.testBit i <;> by_cases h : dist y (sy i) ≤ e <;> simp [h, Nat.not_lt.mpr, show (e < dist y (sy i)) = ¬ (dist y (sy i) ≤ e) from propext (by omega)]
  · simp (disch := omega) only [leN, Nat.le_refl, if_true]
