/-! ===== missed and watch of the reference; alike ===== -/
theorem hearN_lt {T : TA} {N : NA} {c : Nat} (hT : okT T) : hearN T N c < 2 ^ 30 := by
  have a3 : tS T ≤ 6 := hT.2.2.1
  unfold hearN; split
  · exact bitsN_31 (by omega)
  · omega
theorem m_hearC {T : TA} {N : NA} {M : Nat} {my ms mc : Int32} {z row0 mt mseeps mk mp me : Nat → Int32} {s : Nat} {p : Nat → Bool} (hT : okT T) (hN : okN T N M) (hM : M ≤ 30000) (hs : s < tS T) (h3 : mT my ms mc row0 mt mseeps mk mp me T) (h4 : mN 57 z T N) {β : Type} (K : Int32 → Option β) :
    zl2 (fun x11 x12 ag13 => if mc ≤ x12 then (K x11) else (zc1 (F_X9_hears ms z mseeps mk me (57 : Int32) x12) (fun v18 => zc1 (F_X9_has v18 (nI s)) (fun v20 => zj1 (fun y22 => bd (x11 ||| y22) (fun v24 => bd (x12 + (1 : Int32)) (fun v25 => ag13 v24 v25))) (fun K23 => if v20 = 0 then (K23 (0 : Int32)) else (K23 ((1 : Int32) <<< (x12 &&& 31)))))))) FU (nI (bitsN (tC T) p)) (0 : Int32) = K (nI (bitsN (tC T) (fun c => p c || (hearN T N c).testBit s))) := by
  have a3 : tS T ≤ 6 := hT.2.2.1
  have a4 : tC T ≤ 5 := hT.2.2.2.1
  have q3 : mc = nI (tC T) := h3.2.2.1
  have e0 : bitsN (tC T) p = bitsN (tC T) (fun c => if c < 0 then (p c || (hearN T N c).testBit s) else p c) := bitsN_congr (fun i _ => by rw [if_neg (by omega)])
  have e1 : bitsN (tC T) (fun c => p c || (hearN T N c).testBit s) = bitsN (tC T) (fun c => if c < tC T then (p c || (hearN T N c).testBit s) else p c) := bitsN_congr (fun i hi => by rw [if_pos hi])
  rw [e0, e1]
  refine zl2_for (fun i => nI (bitsN (tC T) (fun c => if c < i then (p c || (hearN T N c).testBit s) else p c))) (fun i => nI i) (tC T) (fun i hi k => ?_) (fun k => ?_) (tC T) 0 FU (Nat.sub_zero _).symm (by omega) (by unfold FU; omega)
  · have g1 : F_X9_hears ms z mseeps mk me (57 : Int32) (nI i) = _ := m_hears hT hN hM (show 57 ≤ 76 by omega) hi h3 h4
    have hl := hearN_lt (N := N) (c := i) hT
    have hset : bitsN (tC T) (fun c => if c < i then (p c || (hearN T N c).testBit s) else p c) ||| (if (hearN T N i).testBit s then 2 ^ i else 0) = bitsN (tC T) (fun c => if c < i + 1 then (p c || (hearN T N c).testBit s) else p c) := by
      apply Nat.eq_of_testBit_eq
      intro j
      rw [Nat.testBit_or, bitsN_test, bitsN_test]
      by_cases e : j = i
      · subst e
        have e2 : (if j < j then (p j || (hearN T N j).testBit s) else p j) = p j := if_neg (Nat.lt_irrefl _)
        have e3 : (if j < j + 1 then (p j || (hearN T N j).testBit s) else p j) = (p j || (hearN T N j).testBit s) := if_pos (by omega)
        rw [e2, e3]
        cases (hearN T N j).testBit s <;> cases p j <;> simp [hi, Nat.testBit_two_pow_self]
      · have h0 : (if (hearN T N i).testBit s then 2 ^ i else 0 : Nat).testBit j = false := by
          split
          · exact Nat.testBit_two_pow_of_ne (fun h => e h.symm)
          · simp
        rw [h0, Bool.or_false]
        by_cases e2 : j < i
        · rw [if_pos e2, if_pos (by omega)]
        · rw [if_neg e2, if_neg (by omega)]
    rw [← hset]
    simp (disch := omega) only [q3, leN, show ¬ tC T ≤ i by omega, if_false, g1, zc1_e, v_has, zj1, shl1, bdE, nI_1]
    cases (hearN T N i).testBit s
    · simp only [Bool.false_eq_true, if_false, eq00, if_true, or0, Nat.or_zero]
    · simp only [if_true, ne10, if_false, fa_or]
  · simp (disch := omega) only [q3, leN, Nat.le_refl, if_true]
theorem brP_due {T : TA} {N : NA} {s : Nat} (h : brP T N s = true) : nF N s = false ∧ dueS T N s = nI (dN T N s) := by
  have e := brP_bh h
  have h : 0 < dN T N s := by simpa [brP] using h
  cases hf : nF N s
  · refine ⟨rfl, ?_⟩
    rw [← e]; unfold bhV; rw [hf, if_neg (by decide)]
  · unfold dN at h; rw [hf, if_pos rfl] at h; omega
theorem m_heardBy {T : TA} {N : NA} {my ms mc : Int32} {row row0 mt mseeps mk mp me : Nat → Int32} {s : Nat} (hT : okT T) (hN : okN T N 9999) (hs : s < tS T) (hb : brP T N s = true) (h3 : mT my ms mc row0 mt mseeps mk mp me T) (h4 : mN 0 row T N) :
    ∃ row', F_X9_heardBy my ms mc row mt mseeps mk mp me (nI s) = some (nI (bitsN (tC T) (fun c => HP T N c s)), row') ∧ ∀ j, (j < 57 ∨ 76 ≤ j) → row' j = row j := by
  obtain ⟨-, hd⟩ := brP_due hb
  have hd9 := (bhV_cases T N s).1
  obtain ⟨row1, m1, m2⟩ := m_breaksIn hT hN hs h3 h4
  have h41 : mN 0 row1 T N := mN_keep hT h4 (fun j _ hj => m2 j (by omega))
  obtain ⟨r0, c1, c2, c3⟩ := m_tried hT h41
  refine ex_pair (P := fun (row' : Nat → Int32) => ∀ j, (j < 57 ∨ 76 ≤ j) → row' j = row j) ?_
  unfold F_X9_heardBy
  rw [m1, zc2_e, c1, zc1_e, hd]
  have hP : (fun c => HP T N c s) = fun c => anyQ (hrP T N c s) (dN T N s) := rfl
  rw [hP]
  generalize dN T N s = d at hd9
  refine zl3_inv (fun i x j z => x = nI (bitsN (tC T) (fun c => anyQ (hrP T N c s) i)) ∧ j = nI i ∧ mN 57 z T (hoursN T i N) ∧ ∀ j, (j < 57 ∨ 76 ≤ j) → z j = row j) d (fun i x j z hi hI => ?_) (fun x j z hI k => ?_) d 0 FU _ _ _ (Nat.sub_zero _).symm (by omega) (by unfold FU; omega) ⟨?_, rfl, c2, fun j hj => (c3 j hj).trans (m2 j hj)⟩
  · obtain ⟨rfl, rfl, i3, i4⟩ := hI
    obtain ⟨r, r1, r2, r3⟩ := m_hour hT (hoursN_ok hT hN i) (by omega) (show 57 ≤ 76 by omega) h3 i3
    have r1 : F_X9_hour my ms mc z mt mseeps mp (57 : Int32) = some r := r1
    refine ⟨nI (bitsN (tC T) (fun c => anyQ (hrP T N c s) (i + 1))), nI (i + 1), r, ⟨rfl, rfl, r2, fun j hj => by rw [r3 j (by omega)]; exact i4 j hj⟩, fun k => ?_⟩
    rw [if_neg (nI_ge hi (by omega)), m_hearC hT (hoursN_ok hT hN i) (by omega) hs h3 i3, r1, zc1_e, bdE, nI_1]
    rfl
  · obtain ⟨rfl, rfl, i3, i4⟩ := hI
    rw [if_pos (nI_le (Nat.le_refl _) (by omega))]
    exact ⟨_, rfl, rfl, i4⟩
  · have : bitsN (tC T) (fun c => anyQ (hrP T N c s) 0) = 0 := by
      rw [bitsN_any]
      refine (Bool.eq_false_iff.mpr (fun h => ?_))
      obtain ⟨u, u1, u2⟩ := anyQ_iff.mp h
      simp [anyQ] at u2
    rw [this]; rfl
def heV (T : TA) (N : NA) (s : Nat) : Int32 := if brP T N s then nI (bitsN (tC T) (fun c => HP T N c s)) else -1
theorem m_layHearers {T : TA} {N : NA} {my ms mc : Int32} {row row0 mt mseeps mk mp me he : Nat → Int32} (hT : okT T) (hN : okN T N 9999) (h3 : mT my ms mc row0 mt mseeps mk mp me T) (h4 : mN 0 row T N) :
    ∃ r, F_X9_layHearers my ms mc row mt mseeps mk mp me he = some r ∧ ((∀ j, (j < 57 ∨ 76 ≤ j) → r.1 j = row j) ∧ ∀ s, s < tS T → r.2 s = heV T N s) := by
  have a3 : tS T ≤ 6 := hT.2.2.1
  have q2 : ms = nI (tS T) := h3.2.1
  have hb := bitsN_31 (n := tS T) (p := nF N) (by omega)
  unfold F_X9_layHearers
  refine zl3_inv (fun i x z g => x = nI i ∧ (∀ j, (j < 57 ∨ 76 ≤ j) → z j = row j) ∧ ∀ s, s < i → g s = heV T N s) (tS T) (fun i x z g hi hI => ?_) (fun x z g hI k => ?_) (tS T) 0 FU _ _ _ (Nat.sub_zero _).symm (by omega) (by unfold FU; omega) ⟨rfl, fun _ _ => rfl, fun s hs => by omega⟩
  · obtain ⟨rfl, i2, i3⟩ := hI
    have htb : (bitsN (tS T) (nF N)).testBit i = nF N i := by rw [bitsN_test]; simp [hi]
    have h4z : mN 0 z T N := mN_keep hT h4 (fun j _ hj => i2 j (by omega))
    have g6 : z 6 = nI (bitsN (tS T) (nF N)) := by have := h4z.2.1; rwa [Nat.zero_add] at this
    have hg : ∀ s, s < i + 1 → upd g i (heV T N i) s = heV T N s := fun s hs => by
      rw [upd_at]
      by_cases e : s = i
      · rw [if_pos e, e]
      · rw [if_neg e]; exact i3 s (by omega)
    cases hf : nF N i
    · obtain ⟨row1, m1, m2⟩ := m_breaksIn hT hN hi h3 h4z
      obtain ⟨D, hD⟩ : ∃ D, D = dueS T N i := ⟨_, rfl⟩
      have hbh : bhV T N i = D := by unfold bhV; rw [hf, if_neg (by decide), hD]
      have hpos := bhV_pos T N i
      rw [hbh] at hpos
      rw [← hD] at m1
      by_cases hd : 0 < dN T N i
      · have hbr : brP T N i = true := by simp [brP, hd]
        have h41 : mN 0 row1 T N := mN_keep hT h4z (fun j _ hj => m2 j (by omega))
        obtain ⟨row2, w1, w2⟩ := m_heardBy hT hN hi hbr h3 h41
        have hv : heV T N i = nI (bitsN (tC T) (fun c => HP T N c i)) := by unfold heV; rw [if_pos hbr]
        refine ⟨nI (i + 1), row2, upd g i (heV T N i), ⟨rfl, fun j hj => ((w2 j hj).trans (m2 j hj)).trans (i2 j hj), hg⟩, fun k => ?_⟩
        rw [hv]
        have hpos' : (D ≤ 0) = False := by rw [hpos]; exact eq_false (fun h => h hd)
        simp (disch := omega) only [q2, leN, show ¬ tS T ≤ i by omega, if_false, show rd 95 z (6 : Int32) = rd 95 z (nI 6) from rfl, rdN, g6, v_has, htb, hf, Bool.false_eq_true, zc1_e, eq00, if_true, zj2]
        rw [← q2, m1, zc2_e]
        simp only [hpos', if_false, ne10]
        rw [w1, zc2_e]
        simp (disch := omega) only [wrN, nI_clamp, bdE, nI_1]
      · have hbr : brP T N i = false := by simp [brP, hd]
        have hv : heV T N i = -1 := by unfold heV; rw [hbr, if_neg (by decide)]
        refine ⟨nI (i + 1), row1, upd g i (heV T N i), ⟨rfl, fun j hj => (m2 j hj).trans (i2 j hj), hg⟩, fun k => ?_⟩
        rw [hv]
        have hpos' : (D ≤ 0) = True := by rw [hpos]; exact eq_true hd
        simp (disch := omega) only [q2, leN, show ¬ tS T ≤ i by omega, if_false, show rd 95 z (6 : Int32) = rd 95 z (nI 6) from rfl, rdN, g6, v_has, htb, hf, Bool.false_eq_true, zc1_e, eq00, if_true, zj2]
        rw [← q2, m1, zc2_e]
        simp (disch := omega) only [hpos', if_true, wrN, nI_clamp, bdE, nI_1]
    · have hbr : brP T N i = false := by simp [brP, dN, hf]
      have hv : heV T N i = -1 := by unfold heV; rw [hbr, if_neg (by decide)]
      refine ⟨nI (i + 1), z, upd g i (heV T N i), ⟨rfl, i2, hg⟩, fun k => ?_⟩
      rw [hv]
      simp (disch := omega) only [q2, leN, show ¬ tS T ≤ i by omega, if_false, show rd 95 z (6 : Int32) = rd 95 z (nI 6) from rfl, rdN, g6, v_has, htb, hf, zc1_e, ne10, eq00, if_true, zj2, wrN, nI_clamp, bdE, nI_1]
  · obtain ⟨rfl, i2, i3⟩ := hI
    rw [if_pos (by rw [q2]; exact nI_le (Nat.le_refl _) (by omega))]
    exact ⟨_, rfl, i2, i3⟩
theorem andZero (C X : Nat) (h : Nat → Bool) : (bitsN C h &&& X = 0) ↔ anyQ (fun c => X.testBit c && h c) C = false := by
  rw [← bitsN_any]
  have e : bitsN C h &&& X = bitsN C (fun c => X.testBit c && h c) := by
    apply Nat.eq_of_testBit_eq
    intro i
    rw [Nat.testBit_and, bitsN_test, bitsN_test]
    cases decide (i < C) <;> cases h i <;> simp
  rw [e]
theorem m_missedBy {T : TA} {N : NA} {ms : Int32} {he : Nat → Int32} {X : Nat} (hT : okT T) (hX : X < 2 ^ 30) (q2 : ms = nI (tS T)) (hh : ∀ s, s < tS T → he s = heV T N s) : F_X9_missedBy ms he (nI X) = some (nI (bitsN (tS T) (misP T N X (tC T)))) := by
  have a3 : tS T ≤ 6 := hT.2.2.1
  have a4 : tC T ≤ 5 := hT.2.2.2.1
  unfold F_X9_missedBy
  refine zl2_for (fun i => nI (bitsN i (misP T N X (tC T)))) (fun i => nI i) (tS T) (fun i hi k => ?_) (fun k => ?_) (tS T) 0 FU (Nat.sub_zero _).symm (by omega) (by unfold FU; omega)
  · have e1 := hh i hi
    rw [← bitsN_or i (misP T N X (tC T))]
    cases hbr : brP T N i
    · have hv : heV T N i = -1 := by unfold heV; rw [hbr, if_neg (by decide)]
      have hm : misP T N X (tC T) i = false := by unfold misP; rw [hbr]; rfl
      rw [hv] at e1
      simp (disch := omega) only [q2, leN, show ¬ tS T ≤ i by omega, if_false, rdN, e1, if_true, zj1, bdE, nI_1, or0, hm, Bool.false_eq_true, Nat.or_zero]
    · have hv : heV T N i = nI (bitsN (tC T) (fun c => HP T N c i)) := by unfold heV; rw [if_pos hbr]
      rw [hv] at e1
      have hbc := bitsN_31 (n := tC T) (p := fun c => HP T N c i) (by omega)
      have hal : (bitsN (tC T) (fun c => HP T N c i) &&& X) < 2 ^ 30 := Nat.lt_of_le_of_lt Nat.and_le_left hbc
      simp (disch := omega) only [q2, leN, show ¬ tS T ≤ i by omega, if_false, rdN, e1, neM1, fa_and, eq0N, andZero, zj1, bdE, nI_1, shl1]
      unfold misP
      rw [hbr]
      cases anyQ (fun c => X.testBit c && HP T N c i) (tC T)
      · simp [fa_or]
      · simp [or0]
  · simp (disch := omega) only [q2, leN, Nat.le_refl, if_true]
theorem shr_neg {p : Int32} {n : Nat} (hn : n < 32) (hp : p < 0) : ¬ (p >>> (nI n &&& 31)) = 0 := by
  intro h
  have h1 := congrArg (fun x : Int32 => x.toBitVec.msb) h
  simp only [Int32.toBitVec_shiftRight] at h1
  rw [BitVec.sshiftRight', s_l n hn, BitVec.msb_sshiftRight, BitVec.msb_eq_toInt] at h1
  have h2 : p.toBitVec.toInt < 0 := by
    have := (fa_lt p 0).mp hp
    rw [Int32.toInt_zero] at this
    exact this
  rw [decide_eq_true h2] at h1
  exact absurd h1 (by decide)
theorem v_isSetOf {p : Int32} {n : Nat} (hn : n ≤ 6) : F_X8_isSetOf (nI n) p = some (if (0 : Int32) ≤ p ∧ p ≤ ((1 : Int32) <<< (nI n &&& 31)) - (1 : Int32) then 1 else 0) := by
  have h64 : 2 ^ n ≤ 2 ^ 6 := Nat.pow_le_pow_right (by omega) hn
  have hpos := Nat.two_pow_pos n
  unfold F_X8_isSetOf
  rw [shl1 (by omega), subN1 _ hpos]
  rcases iCase p with hp | ⟨a, ha, rfl⟩
  · rw [if_neg (shr_neg (by omega) hp), if_neg]
    rintro ⟨h1, -⟩
    rw [fa_lt, Int32.toInt_zero] at hp
    rw [fa_le, Int32.toInt_zero] at h1
    omega
  · rw [shrN ha (by omega)]
    have hdl : a / 2 ^ n < 2 ^ 31 := Nat.lt_of_le_of_lt (Nat.div_le_self _ _) ha
    simp (disch := omega) only [eq0N, ge0N, leN, true_and]
    by_cases h : a < 2 ^ n
    · rw [if_pos (Nat.div_eq_of_lt h), if_pos (by omega)]
    · have : 0 < a / 2 ^ n := Nat.div_pos (by omega) hpos
      rw [if_neg (by omega), if_neg (by omega)]
theorem b_missed {T : TA} {N : NA} {yards seeps children hours filled tl hh hf htl : Int32} {tides seepYard seepSize growth level kind childYard pace ear size yard oranges hs hy ho bh : Nat → Int32} {p : Int32} (hT : okT T) (hN : okN T N 9999) (h1 : rT yards seeps children tides seepYard seepSize growth level kind childYard pace ear T) (h2 : rN hours filled tl size yard oranges T N)
    {my ms mc : Int32} {row mt mseeps mk mp me he : Nat → Int32} (h3 : mT my ms mc row mt mseeps mk mp me T) (h4 : mN 0 row T N) :
    ∃ r b row' he', F_X8_missed yards seeps children tides seepYard growth level kind pace ear hours filled tl size yard oranges hh hf htl hs hy ho bh p = some (r, b) ∧ F_X9_missed my ms mc row mt mseeps mk mp me he p = some (r, row', he') ∧ ∀ j, (j < 57 ∨ 76 ≤ j) → row' j = row j := by
  have a4 : tC T ≤ 5 := hT.2.2.2.1
  have hpw : 2 ^ tC T ≤ 2 ^ 5 := Nat.pow_le_pow_right (by omega) a4
  have hpos := Nat.two_pow_pos (tC T)
  unfold F_X8_missed F_X9_missed F_X7_hasChildren
  rw [show children = nI (tC T) from h1.2.2.1, show mc = nI (tC T) from h3.2.2.1, v_isSetOf (by omega), zc1_e, ckZp, zc1_e, bdE, W0', v_in, zc1_e]
  by_cases hc : (0 : Int32) ≤ p ∧ p ≤ ((1 : Int32) <<< (nI (tC T) &&& 31)) - (1 : Int32)
  · rw [if_pos hc]
    have hc' := hc
    rw [shl1 (by omega), subN1 _ hpos] at hc'
    obtain ⟨X, -, x2, rfl⟩ := inNat (a := 0) (b := 2 ^ tC T - 1) (by omega) hc' (by omega)
    have h1' := h1
    have h3' := h3
    rw [show children = nI (tC T) from h1.2.2.1] at h1'
    rw [show mc = nI (tC T) from h3.2.2.1] at h3'
    obtain ⟨⟨b1, b2, b3, b4, b5, b6, b7⟩, g1, -⟩ := v_missedBy (hh := hh) (hf := hf) (htl := htl) (hs := hs) (hy := hy) (ho := ho) (bh := bh) (X := X) hT hN (by omega) h1' h2
    obtain ⟨⟨row', he'⟩, w1, w2, w3⟩ := m_layHearers (he := he) hT hN h3' h4
    simp only [ne10, if_false]
    rw [g1, zc8_e, w1, zc2_e, m_missedBy hT (by omega) h3.2.1 w3]
    exact ⟨_, _, row', he', rfl, rfl, w2⟩
  · rw [if_neg hc]
    simp only [eq00, if_true]
    exact ⟨_, _, row, he, rfl, rfl, fun _ _ => rfl⟩
/-! watch -/
def wB (ok : Nat → Bool) : Nat → Option Nat
  | 0 => none
  | n + 1 => match wB ok n with
    | none => if ok n then some n else none
    | some b => if ok n && decide (cntB n.testBit 24 < cntB b.testBit 24) then some n else some b
def oI : Option Nat → Int32
  | none => -1
  | some b => nI b
theorem wB_lt {ok : Nat → Bool} {n b : Nat} (h : wB ok n = some b) : b < n := by
  induction n generalizing b with
  | zero => cases h
  | succ n ih =>
    simp only [wB] at h
    cases hw : wB ok n with
    | none =>
      rw [hw] at h
      simp only at h
      split at h
      · cases h; omega
      · cases h
    | some c =>
      rw [hw] at h
      simp only at h
      have := ih hw
      split at h
      · cases h; omega
      · cases h; omega
theorem watch_a {n : Nat} {M v1 : Int32} {ok : Nat → Bool} {H : Int32 → Option Int32} (hn : n ≤ 32) (hM : M = nI n) (hH : ∀ x, x < n → ∃ v, H (nI x) = some v ∧ ((v1 &&& (v ^^^ (-1 : Int32))) = 0 ↔ ok x = true)) {β : Type} (K : Int32 → Option β) :
    zl2 (fun x14 x15 ag16 => if M ≤ x15 then (K x14) else (zj1 (fun y18 => if y18 = 0 then (bd (x15 + (1 : Int32)) (fun v21 => ag16 x14 v21)) else (zc1 (H x15) (fun v22 => if (v1 &&& (v22 ^^^ (-1 : Int32))) = 0 then (bd (x15 + (1 : Int32)) (fun v26 => ag16 x15 v26)) else (bd (x15 + (1 : Int32)) (fun v25 => ag16 x14 v25))))) (fun K19 => if x14 = (-1 : Int32) then (K19 (1 : Int32)) else (zc1 (F_J6_bitCount_0f7a4 x15) (fun v28 => zc1 (F_J6_bitCount_0f7a4 x14) (fun v30 => if v30 ≤ v28 then (K19 (0 : Int32)) else (K19 (1 : Int32)))))))) FU (-1 : Int32) (0 : Int32) = K (oI (wB ok n)) := by
  refine zl2_for (fun i => oI (wB ok i)) (fun i => nI i) n (fun i hi k => ?_) (fun k => ?_) n 0 FU (Nat.sub_zero _).symm (by omega) (by unfold FU; omega)
  · obtain ⟨v, v1', v2'⟩ := hH i hi
    have hc1 := cntB_le i.testBit 24
    cases hw : wB ok i with
    | none =>
      have e : wB ok (i + 1) = if ok i then some i else none := by simp only [wB, hw]
      rw [e]
      simp (disch := omega) only [hM, leN, show ¬ n ≤ i by omega, if_false, zj1, oI, if_true, ne10, v1', zc1_e, bdE, nI_1, v2']
      cases ok i <;> simp [oI]
    | some b =>
      have hb := wB_lt hw
      have hc2 := cntB_le b.testBit 24
      have e : wB ok (i + 1) = if ok i && decide (cntB i.testBit 24 < cntB b.testBit 24) then some i else some b := by simp only [wB, hw]
      rw [e]
      simp (disch := omega) only [hM, leN, show ¬ n ≤ i by omega, if_false, zj1, oI, neM1, v_bitCount, v1', zc1_e, bdE, nI_1, v2']
      by_cases hx : cntB b.testBit 24 ≤ cntB i.testBit 24
      · simp only [hx, if_true, eq00, show ¬ cntB i.testBit 24 < cntB b.testBit 24 by omega, decide_false, Bool.and_false, Bool.false_eq_true, if_false, oI]
      · simp only [hx, if_false, ne10, show cntB i.testBit 24 < cntB b.testBit 24 by omega, decide_true, Bool.and_true]
        cases ok i <;> simp [oI]
  · simp (disch := omega) only [hM, leN, Nat.le_refl, if_true]
theorem watch_b {n : Nat} {M : Int32} {ok : Nat → Bool} {G : Int32 → Option Int32} (hn : n ≤ 32) (hM : M = nI n) (hG : ∀ x, x < n → ∃ v, G (nI x) = some v ∧ (v = 0 ↔ ok x = true)) {β : Type} (K : Int32 → Option β) :
    zl2 (fun x7 x8 ag9 => if M ≤ x8 then (K x7) else (zc1 (G x8) (fun v15 => zj0 (bd (x8 + (1 : Int32)) (fun v18 => ag9 x7 v18)) (fun K17 => if v15 = 0 then (zj0 (bd (x8 + (1 : Int32)) (fun v21 => ag9 x8 v21)) (fun K20 => if x7 = (-1 : Int32) then (K20) else (zc1 (F_X9_bits x8) (fun v23 => zc1 (F_X9_bits x7) (fun v25 => if v25 ≤ v23 then (K17) else (K20)))))) else (K17))))) FU (-1 : Int32) (0 : Int32) = K (oI (wB ok n)) := by
  refine zl2_for (fun i => oI (wB ok i)) (fun i => nI i) n (fun i hi k => ?_) (fun k => ?_) n 0 FU (Nat.sub_zero _).symm (by omega) (by unfold FU; omega)
  · obtain ⟨v, v1', v2'⟩ := hG i hi
    have hc1 := cntB_le i.testBit 24
    cases hw : wB ok i with
    | none =>
      have e : wB ok (i + 1) = if ok i then some i else none := by simp only [wB, hw]
      rw [e]
      simp (disch := omega) only [hM, leN, show ¬ n ≤ i by omega, if_false, zj0, oI, if_true, ne10, v1', zc1_e, bdE, nI_1, v2']
      cases ok i <;> simp [oI]
    | some b =>
      have hb := wB_lt hw
      have hc2 := cntB_le b.testBit 24
      have e : wB ok (i + 1) = if ok i && decide (cntB i.testBit 24 < cntB b.testBit 24) then some i else some b := by simp only [wB, hw]
      rw [e]
      simp (disch := omega) only [hM, leN, show ¬ n ≤ i by omega, if_false, zj0, oI, neM1, v_bitsN, v1', zc1_e, bdE, nI_1, v2']
      by_cases hx : cntB b.testBit 24 ≤ cntB i.testBit 24
      · simp only [hx, if_true, show ¬ cntB i.testBit 24 < cntB b.testBit 24 by omega, decide_false, Bool.and_false, Bool.false_eq_true, if_false, oI, ite_self]
      · simp only [hx, if_false, show cntB i.testBit 24 < cntB b.testBit 24 by omega, decide_true, Bool.and_true]
        cases ok i <;> simp [oI]
  · simp (disch := omega) only [hM, leN, Nat.le_refl, if_true]
theorem v_heardTogether {T : TA} {N : NA} {children : Int32} {ht : Nat → Int32} {X : Nat} (hT : okT T) (hX : X < 2 ^ 30) (q3 : children = nI (tC T)) (hh : ∀ c, c < tC T → ht c = nI (bitsN (tS T) (fun s => brP T N s && HP T N c s))) : F_X1_heardTogether children ht (nI X) = some (nI (bitsN (tS T) (fun s => brP T N s && anyQ (fun c => X.testBit c && HP T N c s) (tC T)))) := by
  have a4 : tC T ≤ 5 := hT.2.2.2.1
  unfold F_X1_heardTogether
  have e0 : bitsN (tS T) (fun s => brP T N s && anyQ (fun c => X.testBit c && HP T N c s) 0) = 0 := by
    rw [bitsN_any]
    refine (Bool.eq_false_iff.mpr (fun h => ?_))
    obtain ⟨u, u1, u2⟩ := anyQ_iff.mp h
    simp [anyQ] at u2
  have h0 : (0 : Int32) = nI (bitsN (tS T) (fun s => brP T N s && anyQ (fun c => X.testBit c && HP T N c s) 0)) := by rw [e0]; rfl
  rw [show zl2 (fun x1 x2 ag3 => if children ≤ x2 then (some x1) else (zc1 (F_X8_hasBit (nI X) x2) (fun v5 => zj1 (fun y7 => bd (x1 ||| y7) (fun v9 => bd (x2 + (1 : Int32)) (fun v10 => ag3 v9 v10))) (fun K8 => if v5 = 0 then (K8 (0 : Int32)) else (rd 5 ht x2 (fun v12 => K8 v12)))))) FU (0 : Int32) (0 : Int32) = zl2 (fun x1 x2 ag3 => if children ≤ x2 then (some x1) else (zc1 (F_X8_hasBit (nI X) x2) (fun v5 => zj1 (fun y7 => bd (x1 ||| y7) (fun v9 => bd (x2 + (1 : Int32)) (fun v10 => ag3 v9 v10))) (fun K8 => if v5 = 0 then (K8 (0 : Int32)) else (rd 5 ht x2 (fun v12 => K8 v12)))))) FU (nI (bitsN (tS T) (fun s => brP T N s && anyQ (fun c => X.testBit c && HP T N c s) 0))) (nI 0) from by rw [← h0]; rfl]
  refine zl2_for (fun i => nI (bitsN (tS T) (fun s => brP T N s && anyQ (fun c => X.testBit c && HP T N c s) i))) (fun i => nI i) (tC T) (fun i hi k => ?_) (fun k => ?_) (tC T) 0 FU (Nat.sub_zero _).symm (by omega) (by unfold FU; omega)
  · have e1 := hh i hi
    cases hXi : X.testBit i
    · have e : (fun s => brP T N s && anyQ (fun c => X.testBit c && HP T N c s) (i + 1)) = fun s => brP T N s && anyQ (fun c => X.testBit c && HP T N c s) i := by
        funext s; simp only [anyQ, hXi, Bool.false_and, Bool.or_false]
      rw [e]
      simp (disch := omega) only [q3, leN, show ¬ tC T ≤ i by omega, if_false, v_hasBit, hXi, Bool.false_eq_true, zc1_e, eq00, if_true, zj1, or0, bdE, nI_1]
    · have e : nI (bitsN (tS T) (fun s => brP T N s && anyQ (fun c => X.testBit c && HP T N c s) i)) ||| nI (bitsN (tS T) (fun s => brP T N s && HP T N i s)) = nI (bitsN (tS T) (fun s => brP T N s && anyQ (fun c => X.testBit c && HP T N c s) (i + 1))) := by
        rw [fa_or]
        congr 1
        apply Nat.eq_of_testBit_eq
        intro s
        rw [Nat.testBit_or, bitsN_test, bitsN_test, bitsN_test]
        simp only [anyQ, hXi, Bool.true_and]
        cases decide (s < tS T) <;> cases brP T N s <;> simp
      rw [← e]
      simp (disch := omega) only [q3, leN, show ¬ tC T ≤ i by omega, if_false, v_hasBit, hXi, zc1_e, ne10, if_true, zj1, rdN, e1, bdE, nI_1]
  · simp (disch := omega) only [q3, leN, Nat.le_refl, if_true]
def okW (T : TA) (N : NA) : Nat → Bool := fun X => decide (bitsN (tS T) (misP T N X (tC T)) = 0)
theorem v_leastWatch {T : TA} {N : NA} {yards seeps children hours filled tl hh hf htl : Int32} {tides seepYard seepSize growth level kind childYard pace ear size yard oranges hs hy ho bh ht : Nat → Int32} (hT : okT T) (hN : okN T N 9999) (h1 : rT yards seeps children tides seepYard seepSize growth level kind childYard pace ear T) (h2 : rN hours filled tl size yard oranges T N) :
    ∃ b, F_X1_leastWatch yards seeps children tides seepYard growth level kind pace ear hours filled tl size yard oranges hh hf htl hs hy ho bh ht = some (oI (wB (okW T N) (2 ^ tC T)), b) ∧ True := by
  have a3 : tS T ≤ 6 := hT.2.2.1
  have a4 : tC T ≤ 5 := hT.2.2.2.1
  have q3 : children = nI (tC T) := h1.2.2.1
  have hpw : 2 ^ tC T ≤ 2 ^ 5 := Nat.pow_le_pow_right (by omega) a4
  obtain ⟨g, g1, g2⟩ := v_findBreaking (bh := bh) hT hN h1 h2
  refine ex_pair (P := fun _ => True) ?_
  unfold F_X1_leastWatch
  rw [g1, zc2_e]
  refine zl8_esc (fun i j _ _ _ _ _ _ h => j = nI i ∧ ∀ c, c < i → h c = nI (bitsN (tS T) (fun s => brP T N s && HP T N c s))) (tC T) (fun i j b1 b2 b3 b4 b5 b6 h hi hI => ?_) (fun j b1 b2 b3 b4 b5 b6 h hI k => ?_) (tC T) 0 FU _ _ _ _ _ _ _ _ (Nat.sub_zero _).symm (by omega) (by unfold FU; omega) ⟨rfl, fun c hc => by omega⟩
  · obtain ⟨rfl, i2⟩ := hI
    obtain ⟨⟨d1, d2, d3, d4, d5, d6⟩, f1, -⟩ := v_findHeardInTime (hh := b1) (hf := b2) (htl := b3) (hs := b4) (hy := b5) (ho := b6) (q := brP T N) hT hN hi h1 h2 g2 (fun s h => h)
    refine Or.inr ⟨nI (i + 1), d1, d2, d3, d4, d5, d6, upd h i (nI (bitsN (tS T) (fun s => brP T N s && HP T N i s))), ⟨rfl, fun c hc => ?_⟩, fun k => ?_⟩
    · rw [upd_at]
      by_cases e : c = i
      · rw [if_pos e, e]
      · rw [if_neg e]; exact i2 c (by omega)
    · rw [if_neg (by rw [q3]; exact nI_ge hi (by omega)), f1, zc7_e]
      simp (disch := omega) only [wrN, nI_clamp, bdE, nI_1]
  · obtain ⟨rfl, i2⟩ := hI
    have hM : ((1 : Int32) <<< (children &&& 31)) = nI (2 ^ tC T) := by rw [q3]; exact shl1 (by omega)
    rw [if_pos (by rw [q3]; exact nI_le (Nat.le_refl _) (by omega))]
    rw [watch_a (n := 2 ^ tC T) (ok := okW T N) (H := F_X1_heardTogether children h) (by omega) hM (fun X hX => ⟨_, v_heardTogether hT (by omega) q3 i2, ?_⟩)]
    · exact ⟨_, rfl, rfl, trivial⟩
    · rw [andNotB]
      have e : bitsN (tS T) (fun s => brP T N s && !(brP T N s && anyQ (fun c => X.testBit c && HP T N c s) (tC T))) = bitsN (tS T) (misP T N X (tC T)) := bitsN_congr (fun s _ => by
        unfold misP
        cases brP T N s <;> simp)
      rw [e]
      have := bitsN_31 (n := tS T) (p := misP T N X (tC T)) (by omega)
      rw [eq0N (by omega)]
      unfold okW; simp
theorem b_watch {T : TA} {N : NA} {yards seeps children hours filled tl hh hf htl : Int32} {tides seepYard seepSize growth level kind childYard pace ear size yard oranges hs hy ho bh ht : Nat → Int32} {p : Int32} (hT : okT T) (hN : okN T N 9999) (h1 : rT yards seeps children tides seepYard seepSize growth level kind childYard pace ear T) (h2 : rN hours filled tl size yard oranges T N)
    {my ms mc : Int32} {row mt mseeps mk mp me he : Nat → Int32} (h3 : mT my ms mc row mt mseeps mk mp me T) (h4 : mN 0 row T N) :
    ∃ r b row' he', F_X8_watch yards seeps children tides seepYard growth level kind pace ear hours filled tl size yard oranges hh hf htl hs hy ho bh ht p = some (r, b) ∧ F_X9_watch my ms mc row mt mseeps mk mp me he p = some (r, row', he') ∧ ∀ j, (j < 57 ∨ 76 ≤ j) → row' j = row j := by
  have a4 : tC T ≤ 5 := hT.2.2.2.1
  have a3 : tS T ≤ 6 := hT.2.2.1
  have hpw : 2 ^ tC T ≤ 2 ^ 5 := Nat.pow_le_pow_right (by omega) a4
  unfold F_X8_watch F_X9_watch
  rw [v_isWithin, W0', W1, v_in, zc1_e, zc1_e]
  by_cases hc : (0 : Int32) ≤ p ∧ p ≤ (1 : Int32)
  · obtain ⟨w, -, w2, rfl⟩ := inNat (a := 0) (b := 1) (by omega) hc (by omega)
    rw [if_pos hc]
    simp only [ne10, if_false]
    obtain ⟨⟨b1, b2, b3, b4, b5, b6, b7, b8⟩, g1, -⟩ := v_leastWatch (hh := hh) (hf := hf) (htl := htl) (hs := hs) (hy := hy) (ho := ho) (bh := bh) (ht := ht) hT hN h1 h2
    obtain ⟨⟨row', he'⟩, u1, u2, u3⟩ := m_layHearers (he := he) hT hN h3 h4
    rw [g1, zc9_e, u1, zc2_e]
    have hM : ((1 : Int32) <<< (mc &&& 31)) = nI (2 ^ tC T) := by rw [show mc = nI (tC T) from h3.2.2.1]; exact shl1 (by omega)
    rw [watch_b (n := 2 ^ tC T) (ok := okW T N) (G := F_X9_missedBy ms he') (by omega) hM (fun X hX => ⟨_, m_missedBy hT (by omega) h3.2.1 u3, ?_⟩)]
    · cases hw : wB (okW T N) (2 ^ tC T) with
      | none =>
        simp only [oI, if_true]
        exact ⟨_, _, row', he', rfl, rfl, u2⟩
      | some b =>
        have hb := wB_lt hw
        simp (disch := omega) only [oI, neM1, if_false, v_bitCount, v_bitsN, zc1_e]
        rcases (show w = 0 ∨ w = 1 by omega) with rfl | rfl
        · rw [if_neg (show ¬ nI 0 = (1 : Int32) by decide), if_pos (show nI 0 = (0 : Int32) from rfl)]
          exact ⟨_, _, row', he', rfl, rfl, u2⟩
        · rw [if_pos (show nI 1 = (1 : Int32) from rfl), if_neg (show ¬ nI 1 = (0 : Int32) by decide)]
          exact ⟨_, _, row', he', rfl, rfl, u2⟩
    · have := bitsN_31 (n := tS T) (p := misP T N X (tC T)) (by omega)
      rw [eq0N (by omega)]
      unfold okW; simp
  · rw [if_neg hc]
    simp only [eq00, if_true]
    exact ⟨_, _, row, he, rfl, rfl, fun _ _ => rfl⟩
