/-! ===== ears, hearing, telling ===== -/
def earN (T : TA) (N : NA) (c : Nat) : Nat := if tKd T c = 1 then tEr T c - nH N / 4 else tEr T c
def hearN (T : TA) (N : NA) (c : Nat) : Nat := if tKd T c < 2 then bitsN (tS T) (heardP (bitsN (tS T) (nF N)) (tSy T) (nY N c) (earN T N c)) else 0
theorem subPos {a b : Nat} (ha : a < 2 ^ 30) (hb : b < 2 ^ 30) : ((0 : Int32) < nI a - nI b) = (b < a) := by
  apply propext
  rw [fa_lt, pk_sub_toInt ha hb, Int32.toInt_zero]
  omega
theorem subLe0 {a b : Nat} (ha : a < 2 ^ 30) (hb : b < 2 ^ 30) : (nI a - nI b ≤ (0 : Int32)) = (a ≤ b) := by
  apply propext
  rw [fa_le, pk_sub_toInt ha hb, Int32.toInt_zero]
  omega
theorem v_earOf {T : TA} {N : NA} {kind ear : Nat → Int32} {hours : Int32} {c : Nat} (hT : okT T) (hc : c < tC T) (hh : hours = nI (nH N)) (hM : nH N ≤ 30000) (hk : kind c = nI (tKd T c)) (he : ear c = nI (tEr T c)) : F_X3_earOf kind ear hours (nI c) = some (nI (earN T N c)) := by
  obtain ⟨-, -, -, a4, -, -, a7⟩ := hT
  obtain ⟨b1, b2, b3, b4⟩ := a7 c hc
  have hd : nH N / 4 ≤ 30000 := Nat.le_trans (Nat.div_le_self _ _) hM
  unfold F_X3_earOf earN
  simp (disch := omega) only [rdN, hk, he, hh, eq1N, show (4 : Int32) = nI 4 from rfl, divN, subPos, bdE]
  by_cases e : tKd T c = 1
  · rw [if_pos e, if_pos e]
    by_cases h : nH N / 4 < tEr T c
    · rw [if_pos h, pk_sub (by omega)]
    · rw [if_neg h, show tEr T c - nH N / 4 = 0 by omega]; rfl
  · rw [if_neg e, if_neg e]
theorem m_earOf {T : TA} {N : NA} {row kinds ears : Nat → Int32} {base c : Nat} (hT : okT T) (hb : base ≤ 76) (hc : c < tC T) (hh : row (base + 18) = nI (nH N)) (hM : nH N ≤ 30000) (hk : kinds c = nI (tKd T c)) (he : ears c = nI (tEr T c)) : F_X9_earOf row kinds ears (nI base) (nI c) = some (nI (earN T N c)) := by
  obtain ⟨-, -, -, a4, -, -, a7⟩ := hT
  obtain ⟨b1, b2, b3, b4⟩ := a7 c hc
  have hd : nH N / 4 ≤ 30000 := Nat.le_trans (Nat.div_le_self _ _) hM
  unfold F_X9_earOf earN
  simp (disch := omega) only [rdN, hk, he, eq1N, show (4 : Int32) = nI 4 from rfl, show (18 : Int32) = nI 18 from rfl, nI_add, hh, divN, subLe0, le0N, zj1]
  by_cases e : tKd T c = 1
  · rw [if_pos e, if_pos e]
    by_cases h : tEr T c ≤ nH N / 4
    · rw [if_pos h, show tEr T c - nH N / 4 = 0 by omega]; rfl
    · rw [if_neg h, pk_sub (by omega)]
  · rw [if_neg e, if_neg e]
    by_cases h : tEr T c = 0
    · rw [if_pos h, h]; rfl
    · rw [if_neg h]
theorem earN_le {T : TA} {N : NA} {c : Nat} (hT : okT T) (hc : c < tC T) : earN T N c ≤ 9 := by
  have := (hT.2.2.2.2.2.2 c hc).2.2.2
  unfold earN; split <;> omega
theorem v_heardBy {T : TA} {N : NA} {M : Nat} {yards seeps children hours filled tl : Int32} {tides seepYard seepSize growth level kind childYard pace ear size yard oranges : Nat → Int32} {c : Nat} (hT : okT T) (hN : okN T N M) (hM : M ≤ 30000) (hc : c < tC T) (h1 : rT yards seeps children tides seepYard seepSize growth level kind childYard pace ear T) (h2 : rN hours filled tl size yard oranges T N) :
    F_X3_heardBy seeps seepYard kind ear hours filled yard (nI c) = some (nI (hearN T N c)) := by
  have hT' := hT
  obtain ⟨a1, a2, a3, a4, a5, a6, a7⟩ := hT'
  obtain ⟨b1, b2, b3, b4⟩ := a7 c hc
  obtain ⟨q1, q2, q3, q4, q5, q6⟩ := h1
  obtain ⟨p1, p2, p3, p4, p5⟩ := h2
  obtain ⟨o1, o2, o3⟩ := hN
  obtain ⟨e1, e2, e3, e4⟩ := q6 c hc
  have hy := o3 c hc
  have he := earN_le (N := N) hT hc
  have hb := bitsN_31 (n := tS T) (p := nF N) (by omega)
  have hs : ∀ s, s < tS T → seepYard s = nI (tSy T s) ∧ tSy T s < 2 ^ 30 := fun s hs => ⟨(q5 s hs).1, by have := (a6 s hs).1; omega⟩
  unfold F_X3_heardBy hearN
  simp (disch := omega) only [rdN, e1, (p5 c hc).1, eqN, show (2 : Int32) = nI 2 from rfl, show (3 : Int32) = nI 3 from rfl, v_earOf (N := N) hT hc p1 (show nH N ≤ 30000 by omega) e1 e4, zc1_e, q2, p2, v_heardFrom (S := tS T) (sy := tSy T) a3 (show bitsN (tS T) (nF N) < 2 ^ 31 by omega) (show nY N c < 2 ^ 30 by omega) (show earN T N c < 2 ^ 30 by omega) hs]
  by_cases h : tKd T c < 2
  · rw [if_neg (by omega), if_neg (by omega), if_pos h]
  · rw [if_neg h]
    by_cases e : tKd T c = 2
    · rw [if_pos e]; rfl
    · rw [if_neg e, if_pos (by omega)]; rfl
theorem m_hears {T : TA} {N : NA} {M : Nat} {my ms mc : Int32} {row row0 mt mseeps mk mp me : Nat → Int32} {base c : Nat} (hT : okT T) (hN : okN T N M) (hM : M ≤ 30000) (hb : base ≤ 76) (hc : c < tC T) (h3 : mT my ms mc row0 mt mseeps mk mp me T) (h4 : mN base row T N) :
    F_X9_hears ms row mseeps mk me (nI base) (nI c) = some (nI (hearN T N c)) := by
  have hT' := hT
  obtain ⟨a1, a2, a3, a4, a5, a6, a7⟩ := hT'
  obtain ⟨b1, b2, b3, b4⟩ := a7 c hc
  obtain ⟨q1, q2, q3, q4, q5, q6⟩ := h3
  obtain ⟨p1, p2, p3, p4, p5⟩ := h4
  obtain ⟨o1, o2, o3⟩ := hN
  obtain ⟨e1, e2, e3, e4⟩ := q6 c hc
  have hy := o3 c hc
  have he := earN_le (N := N) hT hc
  have hbb := bitsN_31 (n := tS T) (p := nF N) (by omega)
  have hs : ∀ s, s < tS T → mseeps (3 * s) = nI (tSy T s) ∧ tSy T s < 2 ^ 30 := fun s hs => ⟨(q5 s hs).1, by have := (a6 s hs).1; omega⟩
  unfold F_X9_hears hearN
  simp (disch := omega) only [rdN, e1, ltN, show (2 : Int32) = nI 2 from rfl, show (7 : Int32) = nI 7 from rfl, nI_add, (p5 c hc).1, m_earOf (N := N) hT hb hc p1 (show nH N ≤ 30000 by omega) e1 e4, zc1_e, q2, v_heardAt (S := tS T) (sy := tSy T) a3 (show bitsN (tS T) (nF N) < 2 ^ 31 by omega) hb p2 (show nY N c < 2 ^ 30 by omega) (show earN T N c < 2 ^ 30 by omega) hs]
  by_cases h : tKd T c < 2
  · rw [if_pos h, if_pos h]
  · rw [if_neg h, if_neg h]; rfl
/-! the yard that is told -/
abbrev lexle (own a b : Nat) : Prop := dist own a < dist own b ∨ (dist own a = dist own b ∧ a ≤ b)
def tellR (hd : Nat → Bool) (S : Nat) (sy : Nat → Nat) (own : Nat) (x : Int32) : Prop := (x = -1 ∧ ∀ s, s < S → hd s = false) ∨ ∃ y, x = nI y ∧ (∃ s, s < S ∧ hd s = true ∧ sy s = y) ∧ ∀ s, s < S → hd s = true → lexle own y (sy s)
theorem tellR_eq {hd : Nat → Bool} {S : Nat} {sy : Nat → Nat} {own : Nat} {x z : Int32} (h1 : tellR hd S sy own x) (h2 : tellR hd S sy own z) : x = z := by
  rcases h1 with ⟨a1, a2⟩ | ⟨y, a1, ⟨s, s1, s2, s3⟩, a3⟩ <;> rcases h2 with ⟨b1, b2⟩ | ⟨w, b1, ⟨u, u1, u2, u3⟩, b3⟩
  · rw [a1, b1]
  · rw [a2 u u1] at u2; cases u2
  · rw [b2 s s1] at s2; cases s2
  · have e1 := a3 u u1 u2
    have e2 := b3 s s1 s2
    rw [u3] at e1
    rw [s3] at e2
    unfold lexle at e1 e2
    rw [a1, b1, show y = w by omega]
theorem v_isNearer {f p o : Nat} (hf : f < 2 ^ 30) (hp : p < 2 ^ 30) (ho : o < 2 ^ 30) : F_X3_isNearer (nI f) (nI p) (nI o) = some (if lexle f o p then 0 else 1) := by
  have h1 : dist f p < 2 ^ 30 := dist_lt hf hp
  have h2 : dist f o < 2 ^ 30 := dist_lt hf ho
  unfold F_X3_isNearer F_J6_compare_7cf53 lexle
  rw [absN hf hp, absN hf ho]
  simp (disch := omega) only [neM1, if_false, bdE, leN, eqN]
  by_cases e : dist f o ≤ dist f p
  · rw [if_pos e]
    by_cases e2 : dist f p = dist f o
    · rw [if_pos e2, zc1_e, if_neg (by decide), if_pos rfl]
      by_cases e3 : o ≤ p
      · rw [if_pos e3, if_pos (by omega)]
      · rw [if_neg e3, if_neg (by omega)]
    · rw [if_neg e2, zc1_e, if_neg (by decide), if_neg (by decide), if_pos (by omega)]
  · rw [if_neg e, zc1_e, if_pos (by decide), if_neg (by omega)]
theorem lexle_trans {o a b c : Nat} (h1 : lexle o a b) (h2 : lexle o b c) : lexle o a c := by unfold lexle at *; omega
theorem lexle_tot {o a b : Nat} (h : ¬ lexle o a b) : lexle o b a := by unfold lexle at *; omega
theorem lexle_rfl {o a : Nat} : lexle o a a := Or.inr ⟨rfl, Nat.le_refl _⟩
theorem v_toldBy {T : TA} {N : NA} {M : Nat} {yards seeps children hours filled tl : Int32} {tides seepYard seepSize growth level kind childYard pace ear size yard oranges : Nat → Int32} {c : Nat} (hT : okT T) (hN : okN T N M) (hM : M ≤ 30000) (hc : c < tC T) (h1 : rT yards seeps children tides seepYard seepSize growth level kind childYard pace ear T) (h2 : rN hours filled tl size yard oranges T N) :
    ∃ x, F_X3_toldBy seeps seepYard kind ear hours filled yard (nI c) = some x ∧ (tKd T c = 2 → x = nI (nY N c)) ∧ (¬ tKd T c = 2 → tellR (hearN T N c).testBit (tS T) (tSy T) (nY N c) x) := by
  have hH := v_heardBy hT hN hM hc h1 h2
  have hT' := hT
  obtain ⟨a1, a2, a3, a4, a5, a6, a7⟩ := hT'
  obtain ⟨b1, b2, b3, b4⟩ := a7 c hc
  obtain ⟨q1, q2, q3, q4, q5, q6⟩ := h1
  obtain ⟨p1, p2, p3, p4, p5⟩ := h2
  obtain ⟨o1, o2, o3⟩ := hN
  obtain ⟨e1, e2, e3, e4⟩ := q6 c hc
  have hy := o3 c hc
  have hl : hearN T N c < 2 ^ 30 := by
    unfold hearN; split
    · exact bitsN_31 (by omega)
    · omega
  unfold F_X3_toldBy
  simp (disch := omega) only [rdN, e1, eqN, show (2 : Int32) = nI 2 from rfl, (p5 c hc).1, hH, zc1_e]
  by_cases e : tKd T c = 2
  · rw [if_pos e]
    exact ⟨_, rfl, fun _ => rfl, fun h => absurd e h⟩
  · rw [if_neg e]
    have key : ∃ r, zl2 (fun x6 x7 ag8 => if seeps ≤ x7 then (some x6) else (zc1 (F_X8_hasBit (nI (hearN T N c)) x7) (fun v10 => if v10 = 0 then (bd (x7 + (1 : Int32)) (fun v13 => ag8 x6 v13)) else (rd 6 seepYard x7 (fun v16 => zc1 (F_X3_isNearer (nI (nY N c)) v16 x6) (fun v18 => if v18 = 0 then (bd (x7 + (1 : Int32)) (fun v21 => ag8 x6 v21)) else (rd 6 seepYard x7 (fun v22 => bd (x7 + (1 : Int32)) (fun v24 => ag8 v22 v24))))))))) FU (-1 : Int32) (0 : Int32) = some r ∧ tellR (hearN T N c).testBit (tS T) (tSy T) (nY N c) r := by
      refine zl2_inv (fun i x j => j = nI i ∧ tellR (hearN T N c).testBit i (tSy T) (nY N c) x) (tS T) (fun i x j hi hI => ?_) (fun x j hI k => ?_) (tS T) 0 FU _ _ rfl (by omega) (by unfold FU; omega) ⟨rfl, Or.inl ⟨rfl, fun s hs => by omega⟩⟩
      · obtain ⟨rfl, hI⟩ := hI
        have hsy := (a6 i hi).1
        have g1 := (q5 i hi).1
        cases hb : (hearN T N c).testBit i
        · refine ⟨x, nI (i + 1), ⟨rfl, ?_⟩, fun k => ?_⟩
          · rcases hI with ⟨u1, u2⟩ | ⟨y, u1, ⟨s, s1, s2, s3⟩, u3⟩
            · exact Or.inl ⟨u1, fun s hs => by
                by_cases es : s = i
                · subst es; exact hb
                · exact u2 s (by omega)⟩
            · exact Or.inr ⟨y, u1, ⟨s, by omega, s2, s3⟩, fun t ht h => by
                by_cases es : t = i
                · subst es; rw [hb] at h; cases h
                · exact u3 t (by omega) h⟩
          · simp (disch := omega) only [q2, leN, show ¬ tS T ≤ i by omega, v_hasBit, hb, Bool.false_eq_true, zj0, zj1, zj2, zj3, zj4, zj9, bdE, nI_add, pk_mul, pk_sub, rdN, wrN, zc0_e, zc1_e, zc2_e, zc3_e, zc4_e, zc5_e, nI_1, nI_clamp, bzp, ne10, eq00, ne01, eq11, if_true, if_false, or0, ckZ1, ckZ0, ckZp, L2, L3, L4, L5, L6, L7, L8, L9, L10, L11, L12, L13, L18, L19, L23, L24, L32, L48, L57, L59, L76, L96, L97, L99, L100, L122, L120, L200, L999, L9999]
        · rcases hI with ⟨rfl, u2⟩ | ⟨y, rfl, ⟨s, s1, s2, s3⟩, u3⟩
          · refine ⟨nI (tSy T i), nI (i + 1), ⟨rfl, Or.inr ⟨_, rfl, ⟨i, by omega, hb, rfl⟩, fun t ht h => ?_⟩⟩, fun k => ?_⟩
            · by_cases es : t = i
              · subst es; exact lexle_rfl
              · rw [u2 t (by omega)] at h; cases h
            · have hn : F_X3_isNearer (nI (nY N c)) (nI (tSy T i)) (-1) = some 1 := rfl
              simp (disch := omega) only [q2, leN, show ¬ tS T ≤ i by omega, v_hasBit, hb, g1, hn, zj0, zj1, zj2, zj3, zj4, zj9, bdE, nI_add, pk_mul, pk_sub, rdN, wrN, zc0_e, zc1_e, zc2_e, zc3_e, zc4_e, zc5_e, nI_1, nI_clamp, bzp, ne10, eq00, ne01, eq11, if_true, if_false, or0, ckZ1, ckZ0, ckZp, L2, L3, L4, L5, L6, L7, L8, L9, L10, L11, L12, L13, L18, L19, L23, L24, L32, L48, L57, L59, L76, L96, L97, L99, L100, L122, L120, L200, L999, L9999]
          · have hyy : y < 2 ^ 30 := by rw [← s3]; have := (a6 s (by omega)).1; omega
            have hn := v_isNearer (f := nY N c) (p := tSy T i) (o := y) (by omega) (by omega) hyy
            by_cases hx : lexle (nY N c) y (tSy T i)
            · rw [if_pos hx] at hn
              refine ⟨nI y, nI (i + 1), ⟨rfl, Or.inr ⟨y, rfl, ⟨s, by omega, s2, s3⟩, fun t ht h => ?_⟩⟩, fun k => ?_⟩
              · by_cases es : t = i
                · subst es; exact hx
                · exact u3 t (by omega) h
              · simp (disch := omega) only [q2, leN, show ¬ tS T ≤ i by omega, v_hasBit, hb, g1, hn, zj0, zj1, zj2, zj3, zj4, zj9, bdE, nI_add, pk_mul, pk_sub, rdN, wrN, zc0_e, zc1_e, zc2_e, zc3_e, zc4_e, zc5_e, nI_1, nI_clamp, bzp, ne10, eq00, ne01, eq11, if_true, if_false, or0, ckZ1, ckZ0, ckZp, L2, L3, L4, L5, L6, L7, L8, L9, L10, L11, L12, L13, L18, L19, L23, L24, L32, L48, L57, L59, L76, L96, L97, L99, L100, L122, L120, L200, L999, L9999]
            · rw [if_neg hx] at hn
              refine ⟨nI (tSy T i), nI (i + 1), ⟨rfl, Or.inr ⟨_, rfl, ⟨i, by omega, hb, rfl⟩, fun t ht h => ?_⟩⟩, fun k => ?_⟩
              · by_cases es : t = i
                · subst es; exact lexle_rfl
                · exact lexle_trans (lexle_tot hx) (u3 t (by omega) h)
              · simp (disch := omega) only [q2, leN, show ¬ tS T ≤ i by omega, v_hasBit, hb, g1, hn, zj0, zj1, zj2, zj3, zj4, zj9, bdE, nI_add, pk_mul, pk_sub, rdN, wrN, zc0_e, zc1_e, zc2_e, zc3_e, zc4_e, zc5_e, nI_1, nI_clamp, bzp, ne10, eq00, ne01, eq11, if_true, if_false, or0, ckZ1, ckZ0, ckZp, L2, L3, L4, L5, L6, L7, L8, L9, L10, L11, L12, L13, L18, L19, L23, L24, L32, L48, L57, L59, L76, L96, L97, L99, L100, L122, L120, L200, L999, L9999]
      · obtain ⟨rfl, hI⟩ := hI
        simp (disch := omega) only [q2, leN, Nat.le_refl, if_true]
        exact ⟨_, rfl, hI⟩
    obtain ⟨r, r1, r2⟩ := key
    exact ⟨r, r1, fun h => absurd h e, fun _ => r2⟩
