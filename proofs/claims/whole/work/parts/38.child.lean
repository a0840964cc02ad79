/-! ===== the reference tells the same yard; child, as ===== -/
def anyB (hd : Nat → Bool) (sy : Nat → Nat) (y : Nat) : Nat → Bool
  | 0 => false
  | n + 1 => anyB hd sy y n || (hd n && decide (sy n = y))
theorem anyB_iff {hd : Nat → Bool} {sy : Nat → Nat} {y n : Nat} : anyB hd sy y n = true ↔ ∃ s, s < n ∧ hd s = true ∧ sy s = y := by
  induction n with
  | zero => simp [anyB]
  | succ n ih =>
    simp only [anyB, Bool.or_eq_true, Bool.and_eq_true, decide_eq_true_eq, ih]
    constructor
    · rintro (⟨s, h1, h2⟩ | h)
      · exact ⟨s, by omega, h2⟩
      · exact ⟨n, by omega, h⟩
    · rintro ⟨s, h1, h2⟩
      by_cases e : s = n
      · subst e; exact Or.inr h2
      · exact Or.inl ⟨s, by omega, h2⟩
theorem m_any {S H y : Nat} {sy : Nat → Nat} {ms : Int32} {mseeps : Nat → Int32} {β : Type} (hS : S ≤ 6) (hms : ms = nI S) (hH : H < 2 ^ 30) (hy : y < 2 ^ 30) (hs : ∀ s, s < S → mseeps (3 * s) = nI (sy s) ∧ sy s < 2 ^ 30) (K : Int32 → Option β) :
    zl2 (fun x12 x13 ag14 => if ms ≤ x13 then (K x12) else (zj0 (bd (x13 + (1 : Int32)) (fun v28 => ag14 (1 : Int32) v28)) (fun K27 => if x12 = 0 then (zc1 (F_X9_has (nI H) x13) (fun v30 => zj0 (bd (x13 + (1 : Int32)) (fun v33 => ag14 (0 : Int32) v33)) (fun K32 => if v30 = 0 then (K32) else (rd 18 mseeps ((3 : Int32) * x13) (fun v35 => if v35 = (nI y) then (K27) else (K32)))))) else (K27)))) FU (0 : Int32) (0 : Int32) = K (if anyB H.testBit sy y S then 1 else 0) := by
  refine zl2_for (fun i => if anyB H.testBit sy y i then (1 : Int32) else 0) (fun i => nI i) S (fun i hi k => ?_) (fun k => ?_) S 0 FU rfl (by omega) (by unfold FU; omega)
  · obtain ⟨e1, e2⟩ := hs i hi
    simp (disch := omega) only [hms, leN, show ¬ S ≤ i by omega, v_has, e1, eqN, zj0, zj1, zj2, zj3, zj4, zj9, bdE, nI_add, pk_mul, pk_sub, rdN, wrN, zc0_e, zc1_e, zc2_e, zc3_e, zc4_e, zc5_e, nI_1, nI_clamp, bzp, ne10, eq00, ne01, eq11, if_true, if_false, or0, ckZ1, ckZ0, ckZp, L2, L3, L4, L5, L6, L7, L8, L9, L10, L11, L12, L13, L18, L19, L23, L24, L32, L48, L57, L59, L76, L96, L97, L99, L100, L122, L120, L200, L999, L9999]
    cases h1 : anyB H.testBit sy y i
    · cases h2 : H.testBit i
      · simp [anyB, h1, h2]
      · by_cases h3 : sy i = y
        · simp [anyB, h1, h2, h3]
        · simp [anyB, h1, h2, h3]
    · simp [anyB, h1]
  · simp (disch := omega) only [hms, leN, Nat.le_refl, if_true]
theorem m_tells {T : TA} {N : NA} {M : Nat} {my ms mc : Int32} {row row0 mt mseeps mk mp me : Nat → Int32} {c : Nat} (hT : okT T) (hN : okN T N M) (hM : M ≤ 30000) (hc : c < tC T) (h3 : mT my ms mc row0 mt mseeps mk mp me T) (h4 : mN 0 row T N) :
    ∃ x, F_X9_tells my ms row mseeps mk me (nI c) = some x ∧ (tKd T c = 2 → x = nI (nY N c)) ∧ (¬ tKd T c = 2 → tellR (hearN T N c).testBit (tS T) (tSy T) (nY N c) x) := by
  have hH := m_hears hT hN hM (show 0 ≤ 76 by omega) hc h3 h4
  have hT' := hT
  obtain ⟨a1, a2, a3, a4, a5, a6, a7⟩ := hT'
  obtain ⟨b1, b2, b3, b4⟩ := a7 c hc
  obtain ⟨q1, q2, q3, q4, q5, q6⟩ := h3
  obtain ⟨p1, p2, p3, p4, p5⟩ := h4
  obtain ⟨o1, o2, o3⟩ := hN
  obtain ⟨e1, e2, e3, e4⟩ := q6 c hc
  have hy := o3 c hc
  have hl : hearN T N c < 2 ^ 30 := by
    unfold hearN; split
    · exact bitsN_31 (by omega)
    · omega
  have hs : ∀ s, s < tS T → mseeps (3 * s) = nI (tSy T s) ∧ tSy T s < 2 ^ 30 := fun s hs => ⟨(q5 s hs).1, by have := (a6 s hs).1; omega⟩
  have hrow : row (7 + c) = nI (nY N c) := by have := (p5 c hc).1; rwa [Nat.zero_add] at this
  have hH : F_X9_hears ms row mseeps mk me (0 : Int32) (nI c) = some (nI (hearN T N c)) := hH
  unfold F_X9_tells
  simp (disch := omega) only [show (7 : Int32) = nI 7 from rfl, nI_add, rdN, hrow, hH, zc1_e]
  refine zl2_inv (fun y x j => j = nI y ∧ ((x = -1 ∧ ∀ s, s < tS T → (hearN T N c).testBit s = true → ¬ tSy T s < y) ∨ ∃ w, x = nI w ∧ w < y ∧ (∃ s, s < tS T ∧ (hearN T N c).testBit s = true ∧ tSy T s = w) ∧ ∀ s, s < tS T → (hearN T N c).testBit s = true → tSy T s < y → lexle (nY N c) w (tSy T s))) (tY T) (fun y x j hi hI => ?_) (fun x j hI k => ?_) (tY T) 0 FU _ _ rfl (by omega) (by unfold FU; omega) ⟨rfl, Or.inl ⟨rfl, fun s hs h h0 => by omega⟩⟩
  · obtain ⟨rfl, hI⟩ := hI
    have key := fun k : Int32 → Int32 → Option Int32 => m_any (y := y) (sy := tSy T) (ms := ms) (H := hearN T N c) a3 q2 hl (by omega) hs (fun x12 => zj0 (bd (nI y + (1 : Int32)) (fun v17 => k x v17)) (fun K16 => if x12 = 0 then (K16) else (zj0 (bd (nI y + (1 : Int32)) (fun v20 => k (nI y) v20)) (fun K19 => if x = (-1 : Int32) then (K19) else (zc1 (F_X9_far (nI (nY N c)) (nI y)) (fun v22 => zc1 (F_X9_far (nI (nY N c)) x) (fun v24 => if v24 ≤ v22 then (K16) else (K19)))))))) 
    cases hA : anyB (hearN T N c).testBit (tSy T) y (tS T)
    · have hno : ∀ s, s < tS T → (hearN T N c).testBit s = true → tSy T s ≠ y := fun s hs h e => by
        have := anyB_iff.mpr ⟨s, hs, h, e⟩
        rw [hA] at this; cases this
      refine ⟨x, nI (y + 1), ⟨rfl, ?_⟩, fun k => ?_⟩
      · rcases hI with ⟨u1, u2⟩ | ⟨w, u1, u2, u3, u4⟩
        · exact Or.inl ⟨u1, fun s hs h h0 => u2 s hs h (by have := hno s hs h; omega)⟩
        · exact Or.inr ⟨w, u1, by omega, u3, fun s hs h h0 => u4 s hs h (by have := hno s hs h; omega)⟩
      · rw [if_neg (by rw [q1]; exact nI_ge hi (by omega)), key k, hA]
        simp only [Bool.false_eq_true, if_false, zj0, eq00, if_true, bdE, nI_1]
    · obtain ⟨s0, t1, t2, t3⟩ := anyB_iff.mp hA
      rcases hI with ⟨rfl, u2⟩ | ⟨w, rfl, u2, ⟨s1, v1, v2, v3⟩, u4⟩
      · refine ⟨nI y, nI (y + 1), ⟨rfl, Or.inr ⟨y, rfl, by omega, ⟨s0, t1, t2, t3⟩, fun s hs h h0 => ?_⟩⟩, fun k => ?_⟩
        · have := u2 s hs h
          rw [show tSy T s = y by omega]
          exact lexle_rfl
        · rw [if_neg (by rw [q1]; exact nI_ge hi (by omega)), key k, hA]
          simp only [if_true, zj0, ne10, if_false, bdE, nI_1]
      · have hw : w < 2 ^ 30 := by omega
        have d1 : dist (nY N c) y < 2 ^ 30 := dist_lt (by omega) (by omega)
        have d2 : dist (nY N c) w < 2 ^ 30 := dist_lt (by omega) hw
        by_cases hd : dist (nY N c) w ≤ dist (nY N c) y
        · refine ⟨nI w, nI (y + 1), ⟨rfl, Or.inr ⟨w, rfl, by omega, ⟨s1, v1, v2, v3⟩, fun s hs h h0 => ?_⟩⟩, fun k => ?_⟩
          · by_cases es : tSy T s = y
            · rw [es]; unfold lexle; omega
            · exact u4 s hs h (by omega)
          · rw [if_neg (by rw [q1]; exact nI_ge hi (by omega)), key k, hA]
            simp (disch := omega) only [if_true, zj0, ne10, if_false, bdE, nI_1, neM1, v_far, zc1_e, leN, hd]
        · refine ⟨nI y, nI (y + 1), ⟨rfl, Or.inr ⟨y, rfl, by omega, ⟨s0, t1, t2, t3⟩, fun s hs h h0 => ?_⟩⟩, fun k => ?_⟩
          · by_cases es : tSy T s = y
            · rw [es]; exact lexle_rfl
            · have := u4 s hs h (by omega)
              unfold lexle at this ⊢; omega
          · rw [if_neg (by rw [q1]; exact nI_ge hi (by omega)), key k, hA]
            simp (disch := omega) only [if_true, zj0, ne10, if_false, bdE, nI_1, neM1, v_far, zc1_e, leN, hd]
  · obtain ⟨rfl, hI⟩ := hI
    simp (disch := omega) only [q1, leN, Nat.le_refl, if_true, e1, eqN, show (2 : Int32) = nI 2 from rfl]
    by_cases e : tKd T c = 2
    · rw [if_pos e]; exact ⟨_, rfl, fun _ => rfl, fun h => absurd e h⟩
    · rw [if_neg e]
      refine ⟨_, rfl, fun h => absurd h e, fun _ => ?_⟩
      rcases hI with ⟨u1, u2⟩ | ⟨w, u1, u2, u3, u4⟩
      · refine Or.inl ⟨u1, fun s hs => ?_⟩
        cases hb : (hearN T N c).testBit s
        · rfl
        · exact absurd (a6 s hs).1 (u2 s hs hb)
      · exact Or.inr ⟨w, u1, u3, fun s hs h => u4 s hs h (a6 s hs).1⟩
theorem tells_eq {T : TA} {N : NA} {c : Nat} {x z : Int32} (h1 : (tKd T c = 2 → x = nI (nY N c)) ∧ (¬ tKd T c = 2 → tellR (hearN T N c).testBit (tS T) (tSy T) (nY N c) x)) (h2 : (tKd T c = 2 → z = nI (nY N c)) ∧ (¬ tKd T c = 2 → tellR (hearN T N c).testBit (tS T) (tSy T) (nY N c) z)) : x = z := by
  by_cases e : tKd T c = 2
  · rw [h1.1 e, h2.1 e]
  · exact tellR_eq (h1.2 e) (h2.2 e)
