def F_X9_paid (m_yards : Int32) (m_seenMany : Int32) (m_sights : Nat → Int32) (p1 : Int32) (p2 : Int32) : Option (Int32 × Int32 × (Nat → Int32)) :=
  zc1 (F_X9_isYard m_yards p1) (fun v1 => if v1 = 0 then (some ((-2 : Int32), m_seenMany, m_sights)) else (zc1 (F_X9_in (p2.toInt64) (0 : Int64) (9 : Int64)) (fun v4 => if v4 = 0 then (some ((-3 : Int32), m_seenMany, m_sights)) else (zc3 (F_X9_see m_seenMany m_sights p1 (-1 : Int32) p2) (fun v7 g8 g9 => some (v7, g8, g9))))))
abbrev rm_X9_paid : Room := { frames := 2, cells := 0, slots := 0, locals := 46 }
theorem kd_X9_paid : yX9_paid.cls = RX9 ∧ yX9_paid.cls ≠ "java/lang/invoke/MethodHandle" ∧ yX9_paid.cls ≠ "java/lang/invoke/VarHandle" ∧ (parseMethodDescriptor yX9_paid.desc).map (fun d => d.parameters.length) = some 2 := by decide +kernel
set_option maxRecDepth 100000 in
set_option maxHeartbeats 4000000 in
theorem A_X9_paid (l : Launch) (D : va_G) (cB cI cJ cZ : ClassId) (ad : (Nat → Nat) × (Nat → Nat)) (a_m a_m_row a_m_isKept a_m_text a_m_read a_m_tides a_m_seeps a_m_kinds a_m_paces a_m_ears a_m_hearers a_m_chosen a_m_dues a_m_sights : Nat) (m_length : Int32) (m_readMany : Int32) (m_yards : Int32) (m_seepMany : Int32) (m_many : Int32) (m_at : Int32) (m_place : Int32) (m_end : Int32) (m_readYards : Int32) (m_readSeeps : Int32) (m_readChildren : Int32) (m_chosenMany : Int32) (m_seenMany : Int32) (m_sights : Nat → Int32) (p1 : Int32) (p2 : Int32) (r : Int32) (m_seenMany' : Int32) (m_sights' : Nat → Int32) (hF : F_X9_paid m_yards m_seenMany m_sights p1 p2 = some (r, m_seenMany', m_sights')) : kM l yX9_paid (Cond.code yX9_paid cX9_paid 3 (some .int) :: W0) rm_X9_paid D (kT cB cI cJ cZ) ad [.ref a_m, .int p1, .int p2] [(a_m, .inr (9, [.ref a_m_row, .ref a_m_isKept, .ref a_m_text, .int m_length, .ref a_m_read, .int m_readMany, .int m_yards, .ref a_m_tides, .ref a_m_seeps, .int m_seepMany, .ref a_m_kinds, .ref a_m_paces, .ref a_m_ears, .int m_many, .int m_at, .int m_place, .int m_end, .int m_readYards, .int m_readSeeps, .int m_readChildren, .ref a_m_hearers, .ref a_m_chosen, .int m_chosenMany, .ref a_m_dues, .ref a_m_sights, .int m_seenMany])), (a_m_sights, .inl (cI, 27, .inl m_sights))] (some (.int r)) [(a_m, .inr (9, [.ref a_m_row, .ref a_m_isKept, .ref a_m_text, .int m_length, .ref a_m_read, .int m_readMany, .int m_yards, .ref a_m_tides, .ref a_m_seeps, .int m_seepMany, .ref a_m_kinds, .ref a_m_paces, .ref a_m_ears, .int m_many, .int m_at, .int m_place, .int m_end, .int m_readYards, .int m_readSeeps, .int m_readChildren, .ref a_m_hearers, .ref a_m_chosen, .int m_chosenMany, .ref a_m_dues, .ref a_m_sights, .int (m_seenMany')])), (a_m_sights, .inl (cI, 27, .inl (m_sights')))] := by
  unfold F_X9_paid at hF
  refine kStart (lv := [(0, .ref a_m), (1, .int p1), (2, .int p2)]) (own := "DikeWatchModel") (plainFor_of_name (by decide)) rfl (Nat.le_of_ble_eq_true rfl) rfl ?_
  intro p e s m args below meth c A Q ls hQ C hx hb hw hl
  refine lv_aload_n hx hb (dq dt_X9_paid 0 rfl) rfl (lv_at hl 0 rfl) ?_
  refine lv_iload_n hx hb (dq dt_X9_paid 1 rfl) rfl (lv_at hl 1 rfl) ?_
  obtain ⟨v1, hr2, hF⟩ := zc1_ hF
  refine kCallVR C hw (A_X9_isYard l D cB cI cJ cZ ad a_m a_m_row a_m_isKept a_m_text a_m_read a_m_tides a_m_seeps a_m_kinds a_m_paces a_m_ears a_m_hearers a_m_chosen a_m_dues a_m_sights m_length m_readMany m_yards m_seepMany m_many m_at m_place m_end m_readYards m_readSeeps m_readChildren m_chosenMany m_seenMany p1 v1 hr2) (cwV 1 C.2.2.2.2.2.2.1 (w0_V0 q5_81 q5_78 q5_80 (ws0 40 rfl) q1_10) rfl rfl rfl kd_X9_isYard ⟨Nat.le_of_ble_eq_true rfl, Nat.le_of_ble_eq_true rfl⟩) [0] rfl rfl 0 9 rfl rfl hl.1 rfl rfl rfl (Nat.le_of_ble_eq_true rfl) ⟨Nat.le_of_ble_eq_true rfl, Nat.le_of_ble_eq_true rfl⟩ (dq dt_X9_paid 2 rfl) (fun H locs hw => ?_)
  refine lv_if_ne (tgt := 11) hx hb (dq dt_X9_paid 3 rfl) (by decide) (fun c3 => ?_) (fun c3 => ?_)
  · replace hF := if_f c3 hF
    refine lv_iload_n hx hb (dq dt_X9_paid 6 rfl) rfl (lv_at hl 2 rfl) ?_
    refine lv_i2l (v := (p2.toInt64)) hx hb (dq dt_X9_paid 7 rfl) rfl ?_
    refine lv_lconst (v := (0 : Int64)) hx hb (dq dt_X9_paid 8 rfl) (by decide) ?_
    refine lv_ldc2 (v := (9 : Int64)) hx hb C.2.2.2.2.2.1 (C.2.2.2.2.2.2.1 _ q5_158) (dq dt_X9_paid 9 rfl) ?_
    obtain ⟨v4, hr5, hF⟩ := zc1_ hF
    refine kCallSP C hw (A_X9_in l D cB cI cJ cZ ad (p2.toInt64) (0 : Int64) (9 : Int64) v4 hr5) (va_cwS 3 C.2.2.2.2.2.2.1 (w0_S0 q4_182 q4_180 q4_181 q1_10) rfl rfl rfl ke_X9_in ⟨Nat.le_of_ble_eq_true rfl, Nat.le_of_ble_eq_true rfl⟩) hl.1 rfl rfl rfl (Nat.le_of_ble_eq_true rfl) ⟨Nat.le_of_ble_eq_true rfl, Nat.le_of_ble_eq_true rfl⟩ (dq dt_X9_paid 10 rfl) (fun H locs hw => ?_)
    refine lv_if_eq (tgt := 33) hx hb (dq dt_X9_paid 11 rfl) (by decide) (fun c6 => ?_) (fun c6 => ?_)
    · replace hF := if_t c6 hF
      refine lv_bipush (v := (-3 : Int32)) hx hb (dq dt_X9_paid 18 rfl) (by decide) ?_
      cases hF
      exact kRetI hQ C hw (dq dt_X9_paid 19 rfl)
    · replace hF := if_f c6 hF
      refine lv_aload_n hx hb (dq dt_X9_paid 12 rfl) rfl (lv_at hl 0 rfl) ?_
      refine lv_iload_n hx hb (dq dt_X9_paid 13 rfl) rfl (lv_at hl 1 rfl) ?_
      refine lv_iconst (v := (-1 : Int32)) hx hb (dq dt_X9_paid 14 rfl) (by decide) ?_
      refine lv_iload_n hx hb (dq dt_X9_paid 15 rfl) rfl (lv_at hl 2 rfl) ?_
      obtain ⟨v7, g8, g9, hr10, hF⟩ := zc3_ hF
      refine kCallV (ws2 := [(a_m, .inr (9, [.ref a_m_row, .ref a_m_isKept, .ref a_m_text, .int m_length, .ref a_m_read, .int m_readMany, .int m_yards, .ref a_m_tides, .ref a_m_seeps, .int m_seepMany, .ref a_m_kinds, .ref a_m_paces, .ref a_m_ears, .int m_many, .int m_at, .int m_place, .int m_end, .int m_readYards, .int m_readSeeps, .int m_readChildren, .ref a_m_hearers, .ref a_m_chosen, .int m_chosenMany, .ref a_m_dues, .ref a_m_sights, .int g8])), (a_m_sights, .inl (cI, 27, .inl g9))]) C hw (A_X9_see l D cB cI cJ cZ ad a_m a_m_row a_m_isKept a_m_text a_m_read a_m_tides a_m_seeps a_m_kinds a_m_paces a_m_ears a_m_hearers a_m_chosen a_m_dues a_m_sights m_length m_readMany m_yards m_seepMany m_many m_at m_place m_end m_readYards m_readSeeps m_readChildren m_chosenMany m_seenMany m_sights p1 (-1 : Int32) p2 v7 g8 g9 hr10) (cwV 3 C.2.2.2.2.2.2.1 (w0_V0 q5_166 q5_163 q5_165 (ws0 48 rfl) q1_10) rfl rfl rfl kd_X9_see ⟨Nat.le_of_ble_eq_true rfl, Nat.le_of_ble_eq_true rfl⟩) [0, 1] rfl rfl rfl rfl 0 9 rfl rfl hl.1 rfl rfl rfl (Nat.le_of_ble_eq_true rfl) ⟨Nat.le_of_ble_eq_true rfl, Nat.le_of_ble_eq_true rfl⟩ (dq dt_X9_paid 16 rfl) (fun H locs hw => ?_)
      refine lv_goto (tgt := 35) hx hb (dq dt_X9_paid 17 rfl) (by decide) ?_
      cases hF
      exact kRetI hQ C hw (dq dt_X9_paid 19 rfl)
  · replace hF := if_t c3 hF
    refine lv_bipush (v := (-2 : Int32)) hx hb (dq dt_X9_paid 4 rfl) (by decide) ?_
    cases hF
    exact kRetI hQ C hw (dq dt_X9_paid 5 rfl)
def F_X9_forget (m_seenMany : Int32) : Option (Int32 × Int32) :=
  some (m_seenMany, (0 : Int32))
abbrev rm_X9_forget : Room := { frames := 0, cells := 0, slots := 0, locals := 0 }
theorem kd_X9_forget : yX9_forget.cls = RX9 ∧ yX9_forget.cls ≠ "java/lang/invoke/MethodHandle" ∧ yX9_forget.cls ≠ "java/lang/invoke/VarHandle" ∧ (parseMethodDescriptor yX9_forget.desc).map (fun d => d.parameters.length) = some 0 := by decide +kernel
set_option maxRecDepth 100000 in
set_option maxHeartbeats 4000000 in
theorem A_X9_forget (l : Launch) (D : va_G) (cB cI cJ cZ : ClassId) (ad : (Nat → Nat) × (Nat → Nat)) (a_m a_m_row a_m_isKept a_m_text a_m_read a_m_tides a_m_seeps a_m_kinds a_m_paces a_m_ears a_m_hearers a_m_chosen a_m_dues a_m_sights : Nat) (m_length : Int32) (m_readMany : Int32) (m_yards : Int32) (m_seepMany : Int32) (m_many : Int32) (m_at : Int32) (m_place : Int32) (m_end : Int32) (m_readYards : Int32) (m_readSeeps : Int32) (m_readChildren : Int32) (m_chosenMany : Int32) (m_seenMany : Int32) (r : Int32) (m_seenMany' : Int32) (hF : F_X9_forget m_seenMany = some (r, m_seenMany')) : kM l yX9_forget (Cond.code yX9_forget cX9_forget 2 (some .int) :: W0) rm_X9_forget D (kT cB cI cJ cZ) ad [.ref a_m] [(a_m, .inr (9, [.ref a_m_row, .ref a_m_isKept, .ref a_m_text, .int m_length, .ref a_m_read, .int m_readMany, .int m_yards, .ref a_m_tides, .ref a_m_seeps, .int m_seepMany, .ref a_m_kinds, .ref a_m_paces, .ref a_m_ears, .int m_many, .int m_at, .int m_place, .int m_end, .int m_readYards, .int m_readSeeps, .int m_readChildren, .ref a_m_hearers, .ref a_m_chosen, .int m_chosenMany, .ref a_m_dues, .ref a_m_sights, .int m_seenMany]))] (some (.int r)) [(a_m, .inr (9, [.ref a_m_row, .ref a_m_isKept, .ref a_m_text, .int m_length, .ref a_m_read, .int m_readMany, .int m_yards, .ref a_m_tides, .ref a_m_seeps, .int m_seepMany, .ref a_m_kinds, .ref a_m_paces, .ref a_m_ears, .int m_many, .int m_at, .int m_place, .int m_end, .int m_readYards, .int m_readSeeps, .int m_readChildren, .ref a_m_hearers, .ref a_m_chosen, .int m_chosenMany, .ref a_m_dues, .ref a_m_sights, .int (m_seenMany')]))] := by
  unfold F_X9_forget at hF
  refine kStart (lv := [(0, .ref a_m)]) (own := "DikeWatchModel") (plainFor_of_name (by decide)) rfl (Nat.le_of_ble_eq_true rfl) rfl ?_
  intro p e s m args below meth c A Q ls hQ C hx hb hw hl
  refine lv_aload_n hx hb (dq dt_X9_forget 0 rfl) rfl (lv_at hl 0 rfl) ?_
  refine kGet (ci := 9) C in_X9 hw 0 rfl rfl 25 (by decide) (C.2.2.2.2.2.2.1 _ q4_120) rfl rfl (dq dt_X9_forget 1 rfl) ?_
  refine lv_istore_n (lv' := [(1, .int m_seenMany), (0, .ref a_m)]) hx hb (dq dt_X9_forget 2 rfl) rfl hl (by decide) rfl (fun ls hl => ?_)
  refine lv_aload_n hx hb (dq dt_X9_forget 3 rfl) rfl (lv_at hl 1 rfl) ?_
  refine lv_iconst (v := (0 : Int32)) hx hb (dq dt_X9_forget 4 rfl) (by decide) ?_
  refine kPut (ci := 9) (ws' := [(a_m, .inr (9, [.ref a_m_row, .ref a_m_isKept, .ref a_m_text, .int m_length, .ref a_m_read, .int m_readMany, .int m_yards, .ref a_m_tides, .ref a_m_seeps, .int m_seepMany, .ref a_m_kinds, .ref a_m_paces, .ref a_m_ears, .int m_many, .int m_at, .int m_place, .int m_end, .int m_readYards, .int m_readSeeps, .int m_readChildren, .ref a_m_hearers, .ref a_m_chosen, .int m_chosenMany, .ref a_m_dues, .ref a_m_sights, .int (0 : Int32)]))]) C in_X9 tyX9 tyX9_ok nmX9 hw 0 rfl rfl 25 (by decide) (C.2.2.2.2.2.2.1 _ q4_120) rfl rfl rfl rfl (Nat.le_of_ble_eq_true rfl) rfl (dq dt_X9_forget 5 rfl) (fun H locs hw => ?_)
  refine lv_iload_n hx hb (dq dt_X9_forget 6 rfl) rfl (lv_at hl 0 rfl) ?_
  cases hF
  exact kRetI hQ C hw (dq dt_X9_forget 7 rfl)
def F_X9_canBe (m_seenMany : Int32) (m_sights : Nat → Int32) (p1 : Int32) : Option (Int32) :=
  zl2 (fun x1 x2 ag3 => if m_seenMany ≤ x2 then (ckZ x1 (some x1)) else (rd 27 m_sights ((3 : Int32) * x2) (fun v5 => zc1 (F_X9_far p1 v5) (fun v7 => rd 27 m_sights (((3 : Int32) * x2) + (1 : Int32)) (fun v9 => zj1 (fun y11 => zj0 (bd (x2 + (1 : Int32)) (fun v14 => ag3 (0 : Int32) v14)) (fun K13 => if x1 = 0 then (K13) else (rd 27 m_sights (((3 : Int32) * x2) + (2 : Int32)) (fun v16 => if y11 = v16 then (bd (x2 + (1 : Int32)) (fun v19 => ag3 (1 : Int32) v19)) else (K13))))) (fun K12 => if v9 = (-1 : Int32) then (if (9 : Int32) ≤ v7 then (K12 (0 : Int32)) else (K12 ((9 : Int32) - v7))) else (if v9 < v7 then (K12 (0 : Int32)) else (K12 (1 : Int32))))))))) FU (1 : Int32) (0 : Int32)
abbrev rm_X9_canBe : Room := { frames := 1, cells := 0, slots := 0, locals := 21 }
theorem kd_X9_canBe : yX9_canBe.cls = RX9 ∧ yX9_canBe.cls ≠ "java/lang/invoke/MethodHandle" ∧ yX9_canBe.cls ≠ "java/lang/invoke/VarHandle" ∧ (parseMethodDescriptor yX9_canBe.desc).map (fun d => d.parameters.length) = some 1 := by decide +kernel
set_option maxRecDepth 100000 in
set_option maxHeartbeats 4000000 in
theorem A_X9_canBe (l : Launch) (D : va_G) (cB cI cJ cZ : ClassId) (ad : (Nat → Nat) × (Nat → Nat)) (a_m a_m_row a_m_isKept a_m_text a_m_read a_m_tides a_m_seeps a_m_kinds a_m_paces a_m_ears a_m_hearers a_m_chosen a_m_dues a_m_sights : Nat) (m_length : Int32) (m_readMany : Int32) (m_yards : Int32) (m_seepMany : Int32) (m_many : Int32) (m_at : Int32) (m_place : Int32) (m_end : Int32) (m_readYards : Int32) (m_readSeeps : Int32) (m_readChildren : Int32) (m_chosenMany : Int32) (m_seenMany : Int32) (m_sights : Nat → Int32) (p1 : Int32) (r : Int32) (hF : F_X9_canBe m_seenMany m_sights p1 = some r) : kM l yX9_canBe (Cond.code yX9_canBe cX9_canBe 7 (some .boolean) :: W0) rm_X9_canBe D (kT cB cI cJ cZ) ad [.ref a_m, .int p1] [(a_m, .inr (9, [.ref a_m_row, .ref a_m_isKept, .ref a_m_text, .int m_length, .ref a_m_read, .int m_readMany, .int m_yards, .ref a_m_tides, .ref a_m_seeps, .int m_seepMany, .ref a_m_kinds, .ref a_m_paces, .ref a_m_ears, .int m_many, .int m_at, .int m_place, .int m_end, .int m_readYards, .int m_readSeeps, .int m_readChildren, .ref a_m_hearers, .ref a_m_chosen, .int m_chosenMany, .ref a_m_dues, .ref a_m_sights, .int m_seenMany])), (a_m_sights, .inl (cI, 27, .inl m_sights))] (some (.int r)) [(a_m, .inr (9, [.ref a_m_row, .ref a_m_isKept, .ref a_m_text, .int m_length, .ref a_m_read, .int m_readMany, .int m_yards, .ref a_m_tides, .ref a_m_seeps, .int m_seepMany, .ref a_m_kinds, .ref a_m_paces, .ref a_m_ears, .int m_many, .int m_at, .int m_place, .int m_end, .int m_readYards, .int m_readSeeps, .int m_readChildren, .ref a_m_hearers, .ref a_m_chosen, .int m_chosenMany, .ref a_m_dues, .ref a_m_sights, .int m_seenMany])), (a_m_sights, .inl (cI, 27, .inl m_sights))] := by
  unfold F_X9_canBe at hF
  refine kStart (lv := [(0, .ref a_m), (1, .int p1)]) (own := "DikeWatchModel") (plainFor_of_name (by decide)) rfl (Nat.le_of_ble_eq_true rfl) rfl ?_
  intro p e s m args below meth c A Q ls hQ C hx hb hw hl
  refine lv_iconst (v := (1 : Int32)) hx hb (dq dt_X9_canBe 0 rfl) (by decide) ?_
  refine lv_istore_n (lv' := [(2, .int (1 : Int32)), (0, .ref a_m), (1, .int p1)]) hx hb (dq dt_X9_canBe 1 rfl) rfl hl (by decide) rfl (fun ls hl => ?_)
  refine lv_iconst (v := (0 : Int32)) hx hb (dq dt_X9_canBe 2 rfl) (by decide) ?_
  refine lv_istore_n (lv' := [(3, .int (0 : Int32)), (2, .int (1 : Int32)), (0, .ref a_m), (1, .int p1)]) hx hb (dq dt_X9_canBe 3 rfl) rfl hl (by decide) rfl (fun ls hl => ?_)
  obtain ⟨K3, hK03, hK3, hF⟩ := zl2_ hF
  have L3 : ∀ (n : Nat) (x1 : Int32) (x2 : Int32), K3 n x1 x2 = some r → ∀ (H : Heap) (locs : List Loc) (ls : Array Slot), kW D A s.heap [(a_m, .inr (9, [.ref a_m_row, .ref a_m_isKept, .ref a_m_text, .int m_length, .ref a_m_read, .int m_readMany, .int m_yards, .ref a_m_tides, .ref a_m_seeps, .int m_seepMany, .ref a_m_kinds, .ref a_m_paces, .ref a_m_ears, .int m_many, .int m_at, .int m_place, .int m_end, .int m_readYards, .int m_readSeeps, .int m_readChildren, .ref a_m_hearers, .ref a_m_chosen, .int m_chosenMany, .ref a_m_dues, .ref a_m_sights, .int m_seenMany])), (a_m_sights, .inl (cI, 27, .inl m_sights))] H locs → lv_has ls 7 [(0, .ref a_m), (1, .int p1), (2, .int x1), (3, .int x2)] → W p l e rm_X9_canBe s m args below meth c H locs 0 0 Q (F0 m 4 ls []) := by
    intro n
    induction n with
    | zero => intro x1 x2 hF; exact (lp_no (hK03 x1 x2) hF).elim
    | succ n ih3 =>
      intro x1 x2 hF H locs ls hw hl
      replace hF := hK3 n x1 x2 hF
      refine lv_iload_n hx hb (dq dt_X9_canBe 4 rfl) rfl (lv_at hl 3 rfl) ?_
      refine lv_aload_n hx hb (dq dt_X9_canBe 5 rfl) rfl (lv_at hl 0 rfl) ?_
      refine kGet (ci := 9) C in_X9 hw 0 rfl rfl 25 (by decide) (C.2.2.2.2.2.2.1 _ q4_120) rfl rfl (dq dt_X9_canBe 6 rfl) ?_
      refine lv_icmp_ge (tgt := 108) hx hb (dq dt_X9_canBe 7 rfl) (by decide) (fun c4 => ?_) (fun c4 => ?_)
      · replace hF := if_t c4 hF
        refine lv_iload_n hx hb (dq dt_X9_canBe 63 rfl) rfl (lv_at hl 2 rfl) ?_
        obtain ⟨hn, hF⟩ := ckZ_ hF
        cases hF
        exact kRetZ hQ C hn hw (dq dt_X9_canBe 64 rfl)
      · replace hF := if_f c4 hF
        refine lv_iload_n hx hb (dq dt_X9_canBe 8 rfl) rfl (lv_at hl 1 rfl) ?_
        refine lv_aload_n hx hb (dq dt_X9_canBe 9 rfl) rfl (lv_at hl 0 rfl) ?_
        refine kGet (ci := 9) C in_X9 hw 0 rfl rfl 24 (by decide) (C.2.2.2.2.2.2.1 _ q4_119) rfl rfl (dq dt_X9_canBe 10 rfl) ?_
        refine lv_iconst (v := (3 : Int32)) hx hb (dq dt_X9_canBe 11 rfl) (by decide) ?_
        refine lv_iload_n hx hb (dq dt_X9_canBe 12 rfl) rfl (lv_at hl 3 rfl) ?_
        refine lv_imul hx hb (dq dt_X9_canBe 13 rfl) ?_
        obtain ⟨v5, ev5, hi6, hF⟩ := rd_ hF
        refine kIald C hw 1 1 rfl rfl hi6 ev5 (dq dt_X9_canBe 14 rfl) ?_
        obtain ⟨v7, hr8, hF⟩ := zc1_ hF
        refine kCallSP C hw (A_X9_far l D cB cI cJ cZ ad p1 v5 v7 hr8) (va_cwS 2 C.2.2.2.2.2.2.1 (w0_S0 q5_55 q5_53 q5_54 q1_10) rfl rfl rfl ke_X9_far ⟨Nat.le_of_ble_eq_true rfl, Nat.le_of_ble_eq_true rfl⟩) hl.1 rfl rfl rfl (Nat.le_of_ble_eq_true rfl) ⟨Nat.le_of_ble_eq_true rfl, Nat.le_of_ble_eq_true rfl⟩ (dq dt_X9_canBe 15 rfl) (fun H locs hw => ?_)
        refine lv_istore (lv' := [(4, .int v7), (0, .ref a_m), (1, .int p1), (2, .int x1), (3, .int x2)]) hx hb (dq dt_X9_canBe 16 rfl) hl (by decide) rfl (fun ls hl => ?_)
        refine lv_aload_n hx hb (dq dt_X9_canBe 17 rfl) rfl (lv_at hl 1 rfl) ?_
        refine kGet (ci := 9) C in_X9 hw 0 rfl rfl 24 (by decide) (C.2.2.2.2.2.2.1 _ q4_119) rfl rfl (dq dt_X9_canBe 18 rfl) ?_
        refine lv_iconst (v := (3 : Int32)) hx hb (dq dt_X9_canBe 19 rfl) (by decide) ?_
        refine lv_iload_n hx hb (dq dt_X9_canBe 20 rfl) rfl (lv_at hl 4 rfl) ?_
        refine lv_imul hx hb (dq dt_X9_canBe 21 rfl) ?_
        refine lv_iconst (v := (1 : Int32)) hx hb (dq dt_X9_canBe 22 rfl) (by decide) ?_
        refine lv_iadd hx hb (dq dt_X9_canBe 23 rfl) ?_
        obtain ⟨v9, ev9, hi10, hF⟩ := rd_ hF
        refine kIald C hw 1 1 rfl rfl hi10 ev9 (dq dt_X9_canBe 24 rfl) ?_
        refine lv_istore (lv' := [(5, .int v9), (4, .int v7), (0, .ref a_m), (1, .int p1), (2, .int x1), (3, .int x2)]) hx hb (dq dt_X9_canBe 25 rfl) hl (by decide) rfl (fun ls hl => ?_)
        refine lv_iload hx hb (dq dt_X9_canBe 26 rfl) (lv_at hl 0 rfl) ?_
        refine lv_iconst (v := (-1 : Int32)) hx hb (dq dt_X9_canBe 27 rfl) (by decide) ?_
        obtain ⟨K12, hK12, hF⟩ := zj1_ hF
        have J12 : ∀ (y11 : Int32), K12 y11 = some r → ∀ (H : Heap) (locs : List Loc) (ls : Array Slot), kW D A s.heap [(a_m, .inr (9, [.ref a_m_row, .ref a_m_isKept, .ref a_m_text, .int m_length, .ref a_m_read, .int m_readMany, .int m_yards, .ref a_m_tides, .ref a_m_seeps, .int m_seepMany, .ref a_m_kinds, .ref a_m_paces, .ref a_m_ears, .int m_many, .int m_at, .int m_place, .int m_end, .int m_readYards, .int m_readSeeps, .int m_readChildren, .ref a_m_hearers, .ref a_m_chosen, .int m_chosenMany, .ref a_m_dues, .ref a_m_sights, .int m_seenMany])), (a_m_sights, .inl (cI, 27, .inl m_sights))] H locs → lv_has ls 7 [(0, .ref a_m), (1, .int p1), (2, .int x1), (3, .int x2)] → W p l e rm_X9_canBe s m args below meth c H locs 0 0 Q (F0 m 75 ls [.int y11]) := by
          intro y11 hF H locs ls hw hl
          replace hF := hK12 y11 hF
          refine lv_istore (lv' := [(6, .int y11), (0, .ref a_m), (1, .int p1), (2, .int x1), (3, .int x2)]) hx hb (dq dt_X9_canBe 44 rfl) hl (by decide) rfl (fun ls hl => ?_)
          refine lv_iload_n hx hb (dq dt_X9_canBe 45 rfl) rfl (lv_at hl 3 rfl) ?_
          obtain ⟨K13, hK13, hF⟩ := zj0_ hF
          have J13 : K13 = some r → ∀ (H : Heap) (locs : List Loc) (ls : Array Slot), kW D A s.heap [(a_m, .inr (9, [.ref a_m_row, .ref a_m_isKept, .ref a_m_text, .int m_length, .ref a_m_read, .int m_readMany, .int m_yards, .ref a_m_tides, .ref a_m_seeps, .int m_seepMany, .ref a_m_kinds, .ref a_m_paces, .ref a_m_ears, .int m_many, .int m_at, .int m_place, .int m_end, .int m_readYards, .int m_readSeeps, .int m_readChildren, .ref a_m_hearers, .ref a_m_chosen, .int m_chosenMany, .ref a_m_dues, .ref a_m_sights, .int m_seenMany])), (a_m_sights, .inl (cI, 27, .inl m_sights))] H locs → lv_has ls 7 [(0, .ref a_m), (1, .int p1), (3, .int x2)] → W p l e rm_X9_canBe s m args below meth c H locs 0 0 Q (F0 m 100 ls []) := by
            intro hF H locs ls hw hl
            replace hF := hK13 hF
            refine lv_iconst (v := (0 : Int32)) hx hb (dq dt_X9_canBe 59 rfl) (by decide) ?_
            refine lv_istore_n (lv' := [(2, .int (0 : Int32)), (0, .ref a_m), (1, .int p1), (3, .int x2)]) hx hb (dq dt_X9_canBe 60 rfl) rfl hl (by decide) rfl (fun ls hl => ?_)
            obtain ⟨v14, ev14, hF⟩ := bd_ hF
            refine lv_iinc (v := v14) (lv' := [(3, .int v14), (2, .int (0 : Int32)), (0, .ref a_m), (1, .int p1)]) hx hb (dq dt_X9_canBe 61 rfl) hl (k := 3) rfl ev14.symm (by decide) rfl (fun ls hl => ?_)
            refine lv_goto (tgt := 4) hx hb (dq dt_X9_canBe 62 rfl) (by decide) ?_
            exact ih3 (0 : Int32) v14 hF _ _ _ hw (lv_sub hl [2, 3, 1, 0] rfl)
          refine lv_if_eq (tgt := 100) hx hb (dq dt_X9_canBe 46 rfl) (by decide) (fun c15 => ?_) (fun c15 => ?_)
          · replace hF := if_t c15 hF
            exact J13 hF _ _ _ hw (lv_sub hl [1, 2, 4] rfl)
          · replace hF := if_f c15 hF
            refine lv_iload hx hb (dq dt_X9_canBe 47 rfl) (lv_at hl 0 rfl) ?_
            refine lv_aload_n hx hb (dq dt_X9_canBe 48 rfl) rfl (lv_at hl 1 rfl) ?_
            refine kGet (ci := 9) C in_X9 hw 0 rfl rfl 24 (by decide) (C.2.2.2.2.2.2.1 _ q4_119) rfl rfl (dq dt_X9_canBe 49 rfl) ?_
            refine lv_iconst (v := (3 : Int32)) hx hb (dq dt_X9_canBe 50 rfl) (by decide) ?_
            refine lv_iload_n hx hb (dq dt_X9_canBe 51 rfl) rfl (lv_at hl 4 rfl) ?_
            refine lv_imul hx hb (dq dt_X9_canBe 52 rfl) ?_
            refine lv_iconst (v := (2 : Int32)) hx hb (dq dt_X9_canBe 53 rfl) (by decide) ?_
            refine lv_iadd hx hb (dq dt_X9_canBe 54 rfl) ?_
            obtain ⟨v16, ev16, hi17, hF⟩ := rd_ hF
            refine kIald C hw 1 1 rfl rfl hi17 ev16 (dq dt_X9_canBe 55 rfl) ?_
            refine lv_icmp_ne (tgt := 100) hx hb (dq dt_X9_canBe 56 rfl) (by decide) (fun c18 => ?_) (fun c18 => ?_)
            · replace hF := if_f c18 hF
              exact J13 hF _ _ _ hw (lv_sub hl [1, 2, 4] rfl)
            · replace hF := if_t c18 hF
              refine lv_iconst (v := (1 : Int32)) hx hb (dq dt_X9_canBe 57 rfl) (by decide) ?_
              refine lv_goto (tgt := 101) hx hb (dq dt_X9_canBe 58 rfl) (by decide) ?_
              refine lv_istore_n (lv' := [(2, .int (1 : Int32)), (6, .int y11), (0, .ref a_m), (1, .int p1), (3, .int x2)]) hx hb (dq dt_X9_canBe 60 rfl) rfl hl (by decide) rfl (fun ls hl => ?_)
              obtain ⟨v19, ev19, hF⟩ := bd_ hF
              refine lv_iinc (v := v19) (lv' := [(3, .int v19), (2, .int (1 : Int32)), (6, .int y11), (0, .ref a_m), (1, .int p1)]) hx hb (dq dt_X9_canBe 61 rfl) hl (k := 4) rfl ev19.symm (by decide) rfl (fun ls hl => ?_)
              refine lv_goto (tgt := 4) hx hb (dq dt_X9_canBe 62 rfl) (by decide) ?_
              exact ih3 (1 : Int32) v19 hF _ _ _ hw (lv_sub hl [3, 4, 1, 0] rfl)
        refine lv_icmp_ne (tgt := 63) hx hb (dq dt_X9_canBe 28 rfl) (by decide) (fun c20 => ?_) (fun c20 => ?_)
        · replace hF := if_f c20 hF
          refine lv_iload hx hb (dq dt_X9_canBe 38 rfl) (lv_at hl 1 rfl) ?_
          refine lv_iload hx hb (dq dt_X9_canBe 39 rfl) (lv_at hl 0 rfl) ?_
          refine lv_icmp_gt (tgt := 74) hx hb (dq dt_X9_canBe 40 rfl) (by decide) (fun c21 => ?_) (fun c21 => ?_)
          · replace hF := if_t c21 hF
            refine lv_iconst (v := (0 : Int32)) hx hb (dq dt_X9_canBe 43 rfl) (by decide) ?_
            exact J12 (0 : Int32) hF _ _ _ hw (lv_sub hl [2, 3, 4, 5] rfl)
          · replace hF := if_f c21 hF
            refine lv_iconst (v := (1 : Int32)) hx hb (dq dt_X9_canBe 41 rfl) (by decide) ?_
            refine lv_goto (tgt := 75) hx hb (dq dt_X9_canBe 42 rfl) (by decide) ?_
            exact J12 (1 : Int32) hF _ _ _ hw (lv_sub hl [2, 3, 4, 5] rfl)
        · replace hF := if_t c20 hF
          refine lv_iload hx hb (dq dt_X9_canBe 29 rfl) (lv_at hl 1 rfl) ?_
          refine lv_bipush (v := (9 : Int32)) hx hb (dq dt_X9_canBe 30 rfl) (by decide) ?_
          refine lv_icmp_ge (tgt := 59) hx hb (dq dt_X9_canBe 31 rfl) (by decide) (fun c22 => ?_) (fun c22 => ?_)
          · replace hF := if_t c22 hF
            refine lv_iconst (v := (0 : Int32)) hx hb (dq dt_X9_canBe 36 rfl) (by decide) ?_
            refine lv_goto (tgt := 75) hx hb (dq dt_X9_canBe 37 rfl) (by decide) ?_
            exact J12 (0 : Int32) hF _ _ _ hw (lv_sub hl [2, 3, 4, 5] rfl)
          · replace hF := if_f c22 hF
            refine lv_bipush (v := (9 : Int32)) hx hb (dq dt_X9_canBe 32 rfl) (by decide) ?_
            refine lv_iload hx hb (dq dt_X9_canBe 33 rfl) (lv_at hl 1 rfl) ?_
            refine lv_isub hx hb (dq dt_X9_canBe 34 rfl) ?_
            refine lv_goto (tgt := 75) hx hb (dq dt_X9_canBe 35 rfl) (by decide) ?_
            exact J12 ((9 : Int32) - v7) hF _ _ _ hw (lv_sub hl [2, 3, 4, 5] rfl)
  exact L3 _ (1 : Int32) (0 : Int32) hF _ _ _ hw (lv_sub hl [2, 3, 1, 0] rfl)
def F_X9_placesOf (m_yards : Int32) (m_seenMany : Int32) (m_sights : Nat → Int32) : Option (Int32) :=
  zl2 (fun x1 x2 ag3 => if m_yards ≤ x2 then (some x1) else (zc1 (F_X9_canBe m_seenMany m_sights x2) (fun v5 => zj1 (fun y7 => bd (x1 ||| y7) (fun v9 => bd (x2 + (1 : Int32)) (fun v10 => ag3 v9 v10))) (fun K8 => if v5 = 0 then (K8 (0 : Int32)) else (K8 ((1 : Int32) <<< (x2 &&& 31))))))) FU (0 : Int32) (0 : Int32)
abbrev rm_X9_placesOf : Room := { frames := 2, cells := 0, slots := 0, locals := 47 }
theorem kd_X9_placesOf : yX9_placesOf.cls = RX9 ∧ yX9_placesOf.cls ≠ "java/lang/invoke/MethodHandle" ∧ yX9_placesOf.cls ≠ "java/lang/invoke/VarHandle" ∧ (parseMethodDescriptor yX9_placesOf.desc).map (fun d => d.parameters.length) = some 0 := by decide +kernel
set_option maxRecDepth 100000 in
set_option maxHeartbeats 4000000 in
theorem A_X9_placesOf (l : Launch) (D : va_G) (cB cI cJ cZ : ClassId) (ad : (Nat → Nat) × (Nat → Nat)) (a_m a_m_row a_m_isKept a_m_text a_m_read a_m_tides a_m_seeps a_m_kinds a_m_paces a_m_ears a_m_hearers a_m_chosen a_m_dues a_m_sights : Nat) (m_length : Int32) (m_readMany : Int32) (m_yards : Int32) (m_seepMany : Int32) (m_many : Int32) (m_at : Int32) (m_place : Int32) (m_end : Int32) (m_readYards : Int32) (m_readSeeps : Int32) (m_readChildren : Int32) (m_chosenMany : Int32) (m_seenMany : Int32) (m_sights : Nat → Int32) (r : Int32) (hF : F_X9_placesOf m_yards m_seenMany m_sights = some r) : kM l yX9_placesOf (Cond.code yX9_placesOf cX9_placesOf 3 (some .int) :: W0) rm_X9_placesOf D (kT cB cI cJ cZ) ad [.ref a_m] [(a_m, .inr (9, [.ref a_m_row, .ref a_m_isKept, .ref a_m_text, .int m_length, .ref a_m_read, .int m_readMany, .int m_yards, .ref a_m_tides, .ref a_m_seeps, .int m_seepMany, .ref a_m_kinds, .ref a_m_paces, .ref a_m_ears, .int m_many, .int m_at, .int m_place, .int m_end, .int m_readYards, .int m_readSeeps, .int m_readChildren, .ref a_m_hearers, .ref a_m_chosen, .int m_chosenMany, .ref a_m_dues, .ref a_m_sights, .int m_seenMany])), (a_m_sights, .inl (cI, 27, .inl m_sights))] (some (.int r)) [(a_m, .inr (9, [.ref a_m_row, .ref a_m_isKept, .ref a_m_text, .int m_length, .ref a_m_read, .int m_readMany, .int m_yards, .ref a_m_tides, .ref a_m_seeps, .int m_seepMany, .ref a_m_kinds, .ref a_m_paces, .ref a_m_ears, .int m_many, .int m_at, .int m_place, .int m_end, .int m_readYards, .int m_readSeeps, .int m_readChildren, .ref a_m_hearers, .ref a_m_chosen, .int m_chosenMany, .ref a_m_dues, .ref a_m_sights, .int m_seenMany])), (a_m_sights, .inl (cI, 27, .inl m_sights))] := by
  unfold F_X9_placesOf at hF
  refine kStart (lv := [(0, .ref a_m)]) (own := "DikeWatchModel") (plainFor_of_name (by decide)) rfl (Nat.le_of_ble_eq_true rfl) rfl ?_
  intro p e s m args below meth c A Q ls hQ C hx hb hw hl
  refine lv_iconst (v := (0 : Int32)) hx hb (dq dt_X9_placesOf 0 rfl) (by decide) ?_
  refine lv_istore_n (lv' := [(1, .int (0 : Int32)), (0, .ref a_m)]) hx hb (dq dt_X9_placesOf 1 rfl) rfl hl (by decide) rfl (fun ls hl => ?_)
  refine lv_iconst (v := (0 : Int32)) hx hb (dq dt_X9_placesOf 2 rfl) (by decide) ?_
  refine lv_istore_n (lv' := [(2, .int (0 : Int32)), (1, .int (0 : Int32)), (0, .ref a_m)]) hx hb (dq dt_X9_placesOf 3 rfl) rfl hl (by decide) rfl (fun ls hl => ?_)
  obtain ⟨K3, hK03, hK3, hF⟩ := zl2_ hF
  have L3 : ∀ (n : Nat) (x1 : Int32) (x2 : Int32), K3 n x1 x2 = some r → ∀ (H : Heap) (locs : List Loc) (ls : Array Slot), kW D A s.heap [(a_m, .inr (9, [.ref a_m_row, .ref a_m_isKept, .ref a_m_text, .int m_length, .ref a_m_read, .int m_readMany, .int m_yards, .ref a_m_tides, .ref a_m_seeps, .int m_seepMany, .ref a_m_kinds, .ref a_m_paces, .ref a_m_ears, .int m_many, .int m_at, .int m_place, .int m_end, .int m_readYards, .int m_readSeeps, .int m_readChildren, .ref a_m_hearers, .ref a_m_chosen, .int m_chosenMany, .ref a_m_dues, .ref a_m_sights, .int m_seenMany])), (a_m_sights, .inl (cI, 27, .inl m_sights))] H locs → lv_has ls 3 [(0, .ref a_m), (1, .int x1), (2, .int x2)] → W p l e rm_X9_placesOf s m args below meth c H locs 0 0 Q (F0 m 4 ls []) := by
    intro n
    induction n with
    | zero => intro x1 x2 hF; exact (lp_no (hK03 x1 x2) hF).elim
    | succ n ih3 =>
      intro x1 x2 hF H locs ls hw hl
      replace hF := hK3 n x1 x2 hF
      refine lv_iload_n hx hb (dq dt_X9_placesOf 4 rfl) rfl (lv_at hl 2 rfl) ?_
      refine lv_aload_n hx hb (dq dt_X9_placesOf 5 rfl) rfl (lv_at hl 0 rfl) ?_
      refine kGet (ci := 9) C in_X9 hw 0 rfl rfl 6 (by decide) (C.2.2.2.2.2.2.1 _ q4_101) rfl rfl (dq dt_X9_placesOf 6 rfl) ?_
      refine lv_icmp_ge (tgt := 36) hx hb (dq dt_X9_placesOf 7 rfl) (by decide) (fun c4 => ?_) (fun c4 => ?_)
      · replace hF := if_t c4 hF
        refine lv_iload_n hx hb (dq dt_X9_placesOf 22 rfl) rfl (lv_at hl 1 rfl) ?_
        cases hF
        exact kRetI hQ C hw (dq dt_X9_placesOf 23 rfl)
      · replace hF := if_f c4 hF
        refine lv_iload_n hx hb (dq dt_X9_placesOf 8 rfl) rfl (lv_at hl 1 rfl) ?_
        refine lv_aload_n hx hb (dq dt_X9_placesOf 9 rfl) rfl (lv_at hl 0 rfl) ?_
        refine lv_iload_n hx hb (dq dt_X9_placesOf 10 rfl) rfl (lv_at hl 2 rfl) ?_
        obtain ⟨v5, hr6, hF⟩ := zc1_ hF
        refine kCallVR C hw (A_X9_canBe l D cB cI cJ cZ ad a_m a_m_row a_m_isKept a_m_text a_m_read a_m_tides a_m_seeps a_m_kinds a_m_paces a_m_ears a_m_hearers a_m_chosen a_m_dues a_m_sights m_length m_readMany m_yards m_seepMany m_many m_at m_place m_end m_readYards m_readSeeps m_readChildren m_chosenMany m_seenMany m_sights x2 v5 hr6) (cwV 1 C.2.2.2.2.2.2.1 (w0_V0 q5_186 q5_183 q5_185 (ws0 50 rfl) q1_10) rfl rfl rfl kd_X9_canBe ⟨Nat.le_of_ble_eq_true rfl, Nat.le_of_ble_eq_true rfl⟩) [0, 1] rfl rfl 0 9 rfl rfl hl.1 rfl rfl rfl (Nat.le_of_ble_eq_true rfl) ⟨Nat.le_of_ble_eq_true rfl, Nat.le_of_ble_eq_true rfl⟩ (dq dt_X9_placesOf 11 rfl) (fun H locs hw => ?_)
        obtain ⟨K8, hK8, hF⟩ := zj1_ hF
        have J8 : ∀ (y7 : Int32), K8 y7 = some r → ∀ (H : Heap) (locs : List Loc) (ls : Array Slot), kW D A s.heap [(a_m, .inr (9, [.ref a_m_row, .ref a_m_isKept, .ref a_m_text, .int m_length, .ref a_m_read, .int m_readMany, .int m_yards, .ref a_m_tides, .ref a_m_seeps, .int m_seepMany, .ref a_m_kinds, .ref a_m_paces, .ref a_m_ears, .int m_many, .int m_at, .int m_place, .int m_end, .int m_readYards, .int m_readSeeps, .int m_readChildren, .ref a_m_hearers, .ref a_m_chosen, .int m_chosenMany, .ref a_m_dues, .ref a_m_sights, .int m_seenMany])), (a_m_sights, .inl (cI, 27, .inl m_sights))] H locs → lv_has ls 3 [(0, .ref a_m), (2, .int x2)] → W p l e rm_X9_placesOf s m args below meth c H locs 0 0 Q (F0 m 28 ls [.int y7, .int x1]) := by
          intro y7 hF H locs ls hw hl
          replace hF := hK8 y7 hF
          refine lv_ior hx hb (dq dt_X9_placesOf 18 rfl) ?_
          obtain ⟨v9, ev9, hF⟩ := bd_ hF
          refine kNmI ev9 ?_
          refine lv_istore_n (lv' := [(1, .int v9), (0, .ref a_m), (2, .int x2)]) hx hb (dq dt_X9_placesOf 19 rfl) rfl hl (by decide) rfl (fun ls hl => ?_)
          obtain ⟨v10, ev10, hF⟩ := bd_ hF
          refine lv_iinc (v := v10) (lv' := [(2, .int v10), (1, .int v9), (0, .ref a_m)]) hx hb (dq dt_X9_placesOf 20 rfl) hl (k := 2) rfl ev10.symm (by decide) rfl (fun ls hl => ?_)
          refine lv_goto (tgt := 4) hx hb (dq dt_X9_placesOf 21 rfl) (by decide) ?_
          exact ih3 v9 v10 hF _ _ _ hw (lv_sub hl [2, 1, 0] rfl)
        refine lv_if_eq (tgt := 27) hx hb (dq dt_X9_placesOf 12 rfl) (by decide) (fun c11 => ?_) (fun c11 => ?_)
        · replace hF := if_t c11 hF
          refine lv_iconst (v := (0 : Int32)) hx hb (dq dt_X9_placesOf 17 rfl) (by decide) ?_
          exact J8 (0 : Int32) hF _ _ _ hw (lv_sub hl [0, 2] rfl)
        · replace hF := if_f c11 hF
          refine lv_iconst (v := (1 : Int32)) hx hb (dq dt_X9_placesOf 13 rfl) (by decide) ?_
          refine lv_iload_n hx hb (dq dt_X9_placesOf 14 rfl) rfl (lv_at hl 2 rfl) ?_
          refine lv_ishl hx hb (dq dt_X9_placesOf 15 rfl) ?_
          refine lv_goto (tgt := 28) hx hb (dq dt_X9_placesOf 16 rfl) (by decide) ?_
          exact J8 ((1 : Int32) <<< (x2 &&& 31)) hF _ _ _ hw (lv_sub hl [0, 2] rfl)
  exact L3 _ (0 : Int32) (0 : Int32) hF _ _ _ hw (lv_sub hl [2, 1, 0] rfl)
def F_X9_where (m_yards : Int32) (m_seenMany : Int32) (m_sights : Nat → Int32) : Option (Int32) :=
  zc1 (F_X9_placesOf m_yards m_seenMany m_sights) (fun v1 => some v1)
abbrev rm_X9_where : Room := { frames := 3, cells := 0, slots := 0, locals := 69 }
theorem kd_X9_where : yX9_where.cls = RX9 ∧ yX9_where.cls ≠ "java/lang/invoke/MethodHandle" ∧ yX9_where.cls ≠ "java/lang/invoke/VarHandle" ∧ (parseMethodDescriptor yX9_where.desc).map (fun d => d.parameters.length) = some 0 := by decide +kernel
set_option maxRecDepth 100000 in
set_option maxHeartbeats 4000000 in
theorem A_X9_where (l : Launch) (D : va_G) (cB cI cJ cZ : ClassId) (ad : (Nat → Nat) × (Nat → Nat)) (a_m a_m_row a_m_isKept a_m_text a_m_read a_m_tides a_m_seeps a_m_kinds a_m_paces a_m_ears a_m_hearers a_m_chosen a_m_dues a_m_sights : Nat) (m_length : Int32) (m_readMany : Int32) (m_yards : Int32) (m_seepMany : Int32) (m_many : Int32) (m_at : Int32) (m_place : Int32) (m_end : Int32) (m_readYards : Int32) (m_readSeeps : Int32) (m_readChildren : Int32) (m_chosenMany : Int32) (m_seenMany : Int32) (m_sights : Nat → Int32) (r : Int32) (hF : F_X9_where m_yards m_seenMany m_sights = some r) : kM l yX9_where (Cond.code yX9_where cX9_where 1 (some .int) :: W0) rm_X9_where D (kT cB cI cJ cZ) ad [.ref a_m] [(a_m, .inr (9, [.ref a_m_row, .ref a_m_isKept, .ref a_m_text, .int m_length, .ref a_m_read, .int m_readMany, .int m_yards, .ref a_m_tides, .ref a_m_seeps, .int m_seepMany, .ref a_m_kinds, .ref a_m_paces, .ref a_m_ears, .int m_many, .int m_at, .int m_place, .int m_end, .int m_readYards, .int m_readSeeps, .int m_readChildren, .ref a_m_hearers, .ref a_m_chosen, .int m_chosenMany, .ref a_m_dues, .ref a_m_sights, .int m_seenMany])), (a_m_sights, .inl (cI, 27, .inl m_sights))] (some (.int r)) [(a_m, .inr (9, [.ref a_m_row, .ref a_m_isKept, .ref a_m_text, .int m_length, .ref a_m_read, .int m_readMany, .int m_yards, .ref a_m_tides, .ref a_m_seeps, .int m_seepMany, .ref a_m_kinds, .ref a_m_paces, .ref a_m_ears, .int m_many, .int m_at, .int m_place, .int m_end, .int m_readYards, .int m_readSeeps, .int m_readChildren, .ref a_m_hearers, .ref a_m_chosen, .int m_chosenMany, .ref a_m_dues, .ref a_m_sights, .int m_seenMany])), (a_m_sights, .inl (cI, 27, .inl m_sights))] := by
  unfold F_X9_where at hF
  refine kStart (lv := [(0, .ref a_m)]) (own := "DikeWatchModel") (plainFor_of_name (by decide)) rfl (Nat.le_of_ble_eq_true rfl) rfl ?_
  intro p e s m args below meth c A Q ls hQ C hx hb hw hl
  refine lv_aload_n hx hb (dq dt_X9_where 0 rfl) rfl (lv_at hl 0 rfl) ?_
  obtain ⟨v1, hr2, hF⟩ := zc1_ hF
  refine kCallVR C hw (A_X9_placesOf l D cB cI cJ cZ ad a_m a_m_row a_m_isKept a_m_text a_m_read a_m_tides a_m_seeps a_m_kinds a_m_paces a_m_ears a_m_hearers a_m_chosen a_m_dues a_m_sights m_length m_readMany m_yards m_seepMany m_many m_at m_place m_end m_readYards m_readSeeps m_readChildren m_chosenMany m_seenMany m_sights v1 hr2) (cwV 0 C.2.2.2.2.2.2.1 (w0_V0 q5_182 q5_179 q5_181 (ws0 49 rfl) q1_10) rfl rfl rfl kd_X9_placesOf ⟨Nat.le_of_ble_eq_true rfl, Nat.le_of_ble_eq_true rfl⟩) [0, 1] rfl rfl 0 9 rfl rfl hl.1 rfl rfl rfl (Nat.le_of_ble_eq_true rfl) ⟨Nat.le_of_ble_eq_true rfl, Nat.le_of_ble_eq_true rfl⟩ (dq dt_X9_where 1 rfl) (fun H locs hw => ?_)
  cases hF
  exact kRetI hQ C hw (dq dt_X9_where 2 rfl)
def F_X9_next (m_yards : Int32) (m_seenMany : Int32) (m_sights : Nat → Int32) (p1 : Int32) : Option (Int32) :=
  zc1 (F_X9_in (p1.toInt64) (0 : Int64) (9 : Int64)) (fun v1 => if v1 = 0 then (some (-3 : Int32)) else (zc1 (F_X9_placesOf m_yards m_seenMany m_sights) (fun v4 => zl3 (fun x6 x7 x8 ag9 => if m_yards ≤ x8 then (some x6) else (if v4 = 0 then (some x6) else (zl2 (fun x12 x13 ag14 => if m_yards ≤ x13 then (zc1 (F_X9_bits v4) (fun v16 => zj1 (fun y18 => zj1 (fun y20 => if x7 ≤ y18 then (bd (x8 + (1 : Int32)) (fun v23 => ag9 y20 x7 v23)) else (bd (x8 + (1 : Int32)) (fun v24 => ag9 y20 y18 v24))) (fun K21 => if x7 ≤ y18 then (K21 x6) else (K21 x8))) (fun K19 => if x12 ≤ (v16 - x12) then (zc1 (F_X9_bits v4) (fun v27 => K19 (v27 - x12))) else (K19 x12)))) else (zc1 (F_X9_has v4 x13) (fun v29 => zj1 (fun y31 => bd (x12 + y31) (fun v33 => bd (x13 + (1 : Int32)) (fun v34 => ag14 v33 v34))) (fun K32 => if v29 = 0 then (K32 (0 : Int32)) else (zc1 (F_X9_far x8 x13) (fun v36 => if p1 < v36 then (K32 (0 : Int32)) else (K32 (1 : Int32)))))))) FU (0 : Int32) (0 : Int32)))) FU (-1 : Int32) (99 : Int32) (0 : Int32))))
abbrev rm_X9_next : Room := { frames := 3, cells := 0, slots := 0, locals := 69 }
theorem kd_X9_next : yX9_next.cls = RX9 ∧ yX9_next.cls ≠ "java/lang/invoke/MethodHandle" ∧ yX9_next.cls ≠ "java/lang/invoke/VarHandle" ∧ (parseMethodDescriptor yX9_next.desc).map (fun d => d.parameters.length) = some 1 := by decide +kernel
set_option maxRecDepth 100000 in
set_option maxHeartbeats 4000000 in
theorem A_X9_next (l : Launch) (D : va_G) (cB cI cJ cZ : ClassId) (ad : (Nat → Nat) × (Nat → Nat)) (a_m a_m_row a_m_isKept a_m_text a_m_read a_m_tides a_m_seeps a_m_kinds a_m_paces a_m_ears a_m_hearers a_m_chosen a_m_dues a_m_sights : Nat) (m_length : Int32) (m_readMany : Int32) (m_yards : Int32) (m_seepMany : Int32) (m_many : Int32) (m_at : Int32) (m_place : Int32) (m_end : Int32) (m_readYards : Int32) (m_readSeeps : Int32) (m_readChildren : Int32) (m_chosenMany : Int32) (m_seenMany : Int32) (m_sights : Nat → Int32) (p1 : Int32) (r : Int32) (hF : F_X9_next m_yards m_seenMany m_sights p1 = some r) : kM l yX9_next (Cond.code yX9_next cX9_next 8 (some .int) :: W0) rm_X9_next D (kT cB cI cJ cZ) ad [.ref a_m, .int p1] [(a_m, .inr (9, [.ref a_m_row, .ref a_m_isKept, .ref a_m_text, .int m_length, .ref a_m_read, .int m_readMany, .int m_yards, .ref a_m_tides, .ref a_m_seeps, .int m_seepMany, .ref a_m_kinds, .ref a_m_paces, .ref a_m_ears, .int m_many, .int m_at, .int m_place, .int m_end, .int m_readYards, .int m_readSeeps, .int m_readChildren, .ref a_m_hearers, .ref a_m_chosen, .int m_chosenMany, .ref a_m_dues, .ref a_m_sights, .int m_seenMany])), (a_m_sights, .inl (cI, 27, .inl m_sights))] (some (.int r)) [(a_m, .inr (9, [.ref a_m_row, .ref a_m_isKept, .ref a_m_text, .int m_length, .ref a_m_read, .int m_readMany, .int m_yards, .ref a_m_tides, .ref a_m_seeps, .int m_seepMany, .ref a_m_kinds, .ref a_m_paces, .ref a_m_ears, .int m_many, .int m_at, .int m_place, .int m_end, .int m_readYards, .int m_readSeeps, .int m_readChildren, .ref a_m_hearers, .ref a_m_chosen, .int m_chosenMany, .ref a_m_dues, .ref a_m_sights, .int m_seenMany])), (a_m_sights, .inl (cI, 27, .inl m_sights))] := by
  unfold F_X9_next at hF
  refine kStart (lv := [(0, .ref a_m), (1, .int p1)]) (own := "DikeWatchModel") (plainFor_of_name (by decide)) rfl (Nat.le_of_ble_eq_true rfl) rfl ?_
  intro p e s m args below meth c A Q ls hQ C hx hb hw hl
  refine lv_iload_n hx hb (dq dt_X9_next 0 rfl) rfl (lv_at hl 1 rfl) ?_
  refine lv_i2l (v := (p1.toInt64)) hx hb (dq dt_X9_next 1 rfl) rfl ?_
  refine lv_lconst (v := (0 : Int64)) hx hb (dq dt_X9_next 2 rfl) (by decide) ?_
  refine lv_ldc2 (v := (9 : Int64)) hx hb C.2.2.2.2.2.1 (C.2.2.2.2.2.2.1 _ q5_158) (dq dt_X9_next 3 rfl) ?_
  obtain ⟨v1, hr2, hF⟩ := zc1_ hF
  refine kCallSP C hw (A_X9_in l D cB cI cJ cZ ad (p1.toInt64) (0 : Int64) (9 : Int64) v1 hr2) (va_cwS 3 C.2.2.2.2.2.2.1 (w0_S0 q4_182 q4_180 q4_181 q1_10) rfl rfl rfl ke_X9_in ⟨Nat.le_of_ble_eq_true rfl, Nat.le_of_ble_eq_true rfl⟩) hl.1 rfl rfl rfl (Nat.le_of_ble_eq_true rfl) ⟨Nat.le_of_ble_eq_true rfl, Nat.le_of_ble_eq_true rfl⟩ (dq dt_X9_next 4 rfl) (fun H locs hw => ?_)
  refine lv_if_ne (tgt := 15) hx hb (dq dt_X9_next 5 rfl) (by decide) (fun c3 => ?_) (fun c3 => ?_)
  · replace hF := if_f c3 hF
    refine lv_aload_n hx hb (dq dt_X9_next 8 rfl) rfl (lv_at hl 0 rfl) ?_
    obtain ⟨v4, hr5, hF⟩ := zc1_ hF
    refine kCallVR C hw (A_X9_placesOf l D cB cI cJ cZ ad a_m a_m_row a_m_isKept a_m_text a_m_read a_m_tides a_m_seeps a_m_kinds a_m_paces a_m_ears a_m_hearers a_m_chosen a_m_dues a_m_sights m_length m_readMany m_yards m_seepMany m_many m_at m_place m_end m_readYards m_readSeeps m_readChildren m_chosenMany m_seenMany m_sights v4 hr5) (cwV 0 C.2.2.2.2.2.2.1 (w0_V0 q5_182 q5_179 q5_181 (ws0 49 rfl) q1_10) rfl rfl rfl kd_X9_placesOf ⟨Nat.le_of_ble_eq_true rfl, Nat.le_of_ble_eq_true rfl⟩) [0, 1] rfl rfl 0 9 rfl rfl hl.1 rfl rfl rfl (Nat.le_of_ble_eq_true rfl) ⟨Nat.le_of_ble_eq_true rfl, Nat.le_of_ble_eq_true rfl⟩ (dq dt_X9_next 9 rfl) (fun H locs hw => ?_)
    refine lv_istore_n (lv' := [(2, .int v4), (0, .ref a_m), (1, .int p1)]) hx hb (dq dt_X9_next 10 rfl) rfl hl (by decide) rfl (fun ls hl => ?_)
    refine lv_iconst (v := (-1 : Int32)) hx hb (dq dt_X9_next 11 rfl) (by decide) ?_
    refine lv_istore_n (lv' := [(3, .int (-1 : Int32)), (2, .int v4), (0, .ref a_m), (1, .int p1)]) hx hb (dq dt_X9_next 12 rfl) rfl hl (by decide) rfl (fun ls hl => ?_)
    refine lv_bipush (v := (99 : Int32)) hx hb (dq dt_X9_next 13 rfl) (by decide) ?_
    refine lv_istore (lv' := [(4, .int (99 : Int32)), (3, .int (-1 : Int32)), (2, .int v4), (0, .ref a_m), (1, .int p1)]) hx hb (dq dt_X9_next 14 rfl) hl (by decide) rfl (fun ls hl => ?_)
    refine lv_iconst (v := (0 : Int32)) hx hb (dq dt_X9_next 15 rfl) (by decide) ?_
    refine lv_istore (lv' := [(5, .int (0 : Int32)), (4, .int (99 : Int32)), (3, .int (-1 : Int32)), (2, .int v4), (0, .ref a_m), (1, .int p1)]) hx hb (dq dt_X9_next 16 rfl) hl (by decide) rfl (fun ls hl => ?_)
    obtain ⟨K9, hK09, hK9, hF⟩ := zl3_ hF
    have L9 : ∀ (n : Nat) (x6 : Int32) (x7 : Int32) (x8 : Int32), K9 n x6 x7 x8 = some r → ∀ (H : Heap) (locs : List Loc) (ls : Array Slot), kW D A s.heap [(a_m, .inr (9, [.ref a_m_row, .ref a_m_isKept, .ref a_m_text, .int m_length, .ref a_m_read, .int m_readMany, .int m_yards, .ref a_m_tides, .ref a_m_seeps, .int m_seepMany, .ref a_m_kinds, .ref a_m_paces, .ref a_m_ears, .int m_many, .int m_at, .int m_place, .int m_end, .int m_readYards, .int m_readSeeps, .int m_readChildren, .ref a_m_hearers, .ref a_m_chosen, .int m_chosenMany, .ref a_m_dues, .ref a_m_sights, .int m_seenMany])), (a_m_sights, .inl (cI, 27, .inl m_sights))] H locs → lv_has ls 8 [(0, .ref a_m), (1, .int p1), (2, .int v4), (3, .int x6), (4, .int x7), (5, .int x8)] → W p l e rm_X9_next s m args below meth c H locs 0 0 Q (F0 m 29 ls []) := by
      intro n
      induction n with
      | zero => intro x6 x7 x8 hF; exact (lp_no (hK09 x6 x7 x8) hF).elim
      | succ n ih9 =>
        intro x6 x7 x8 hF H locs ls hw hl
        replace hF := hK9 n x6 x7 x8 hF
        refine lv_iload hx hb (dq dt_X9_next 17 rfl) (lv_at hl 5 rfl) ?_
        refine lv_aload_n hx hb (dq dt_X9_next 18 rfl) rfl (lv_at hl 0 rfl) ?_
        refine kGet (ci := 9) C in_X9 hw 0 rfl rfl 6 (by decide) (C.2.2.2.2.2.2.1 _ q4_101) rfl rfl (dq dt_X9_next 19 rfl) ?_
        refine lv_icmp_ge (tgt := 155) hx hb (dq dt_X9_next 20 rfl) (by decide) (fun c10 => ?_) (fun c10 => ?_)
        · replace hF := if_t c10 hF
          refine lv_iload_n hx hb (dq dt_X9_next 77 rfl) rfl (lv_at hl 3 rfl) ?_
          cases hF
          exact kRetI hQ C hw (dq dt_X9_next 78 rfl)
        · replace hF := if_f c10 hF
          refine lv_iload_n hx hb (dq dt_X9_next 21 rfl) rfl (lv_at hl 2 rfl) ?_
          refine lv_if_eq (tgt := 155) hx hb (dq dt_X9_next 22 rfl) (by decide) (fun c11 => ?_) (fun c11 => ?_)
          · replace hF := if_t c11 hF
            refine lv_iload_n hx hb (dq dt_X9_next 77 rfl) rfl (lv_at hl 3 rfl) ?_
            cases hF
            exact kRetI hQ C hw (dq dt_X9_next 78 rfl)
          · replace hF := if_f c11 hF
            refine lv_iconst (v := (0 : Int32)) hx hb (dq dt_X9_next 23 rfl) (by decide) ?_
            refine lv_istore (lv' := [(6, .int (0 : Int32)), (0, .ref a_m), (1, .int p1), (2, .int v4), (3, .int x6), (4, .int x7), (5, .int x8)]) hx hb (dq dt_X9_next 24 rfl) hl (by decide) rfl (fun ls hl => ?_)
            refine lv_iconst (v := (0 : Int32)) hx hb (dq dt_X9_next 25 rfl) (by decide) ?_
            refine lv_istore (lv' := [(7, .int (0 : Int32)), (6, .int (0 : Int32)), (0, .ref a_m), (1, .int p1), (2, .int v4), (3, .int x6), (4, .int x7), (5, .int x8)]) hx hb (dq dt_X9_next 26 rfl) hl (by decide) rfl (fun ls hl => ?_)
            obtain ⟨K14, hK014, hK14, hF⟩ := zl2_ hF
            have L14 : ∀ (n : Nat) (x12 : Int32) (x13 : Int32), K14 n x12 x13 = some r → ∀ (H : Heap) (locs : List Loc) (ls : Array Slot), kW D A s.heap [(a_m, .inr (9, [.ref a_m_row, .ref a_m_isKept, .ref a_m_text, .int m_length, .ref a_m_read, .int m_readMany, .int m_yards, .ref a_m_tides, .ref a_m_seeps, .int m_seepMany, .ref a_m_kinds, .ref a_m_paces, .ref a_m_ears, .int m_many, .int m_at, .int m_place, .int m_end, .int m_readYards, .int m_readSeeps, .int m_readChildren, .ref a_m_hearers, .ref a_m_chosen, .int m_chosenMany, .ref a_m_dues, .ref a_m_sights, .int m_seenMany])), (a_m_sights, .inl (cI, 27, .inl m_sights))] H locs → lv_has ls 8 [(0, .ref a_m), (1, .int p1), (2, .int v4), (3, .int x6), (4, .int x7), (5, .int x8), (6, .int x12), (7, .int x13)] → W p l e rm_X9_next s m args below meth c H locs 0 0 Q (F0 m 48 ls []) := by
              intro n
              induction n with
              | zero => intro x12 x13 hF; exact (lp_no (hK014 x12 x13) hF).elim
              | succ n ih14 =>
                intro x12 x13 hF H locs ls hw hl
                replace hF := hK14 n x12 x13 hF
                refine lv_iload hx hb (dq dt_X9_next 27 rfl) (lv_at hl 7 rfl) ?_
                refine lv_aload_n hx hb (dq dt_X9_next 28 rfl) rfl (lv_at hl 0 rfl) ?_
                refine kGet (ci := 9) C in_X9 hw 0 rfl rfl 6 (by decide) (C.2.2.2.2.2.2.1 _ q4_101) rfl rfl (dq dt_X9_next 29 rfl) ?_
                refine lv_icmp_ge (tgt := 93) hx hb (dq dt_X9_next 30 rfl) (by decide) (fun c15 => ?_) (fun c15 => ?_)
                · replace hF := if_t c15 hF
                  refine lv_iload hx hb (dq dt_X9_next 48 rfl) (lv_at hl 6 rfl) ?_
                  refine lv_iload_n hx hb (dq dt_X9_next 49 rfl) rfl (lv_at hl 2 rfl) ?_
                  obtain ⟨v16, hr17, hF⟩ := zc1_ hF
                  refine kCallSP C hw (A_X9_bits l D cB cI cJ cZ ad v4 v16 hr17) (va_cwS 1 C.2.2.2.2.2.2.1 (w0_S0 q5_125 q5_123 q5_124 q1_10) rfl rfl rfl ke_X9_bits ⟨Nat.le_of_ble_eq_true rfl, Nat.le_of_ble_eq_true rfl⟩) hl.1 rfl rfl rfl (Nat.le_of_ble_eq_true rfl) ⟨Nat.le_of_ble_eq_true rfl, Nat.le_of_ble_eq_true rfl⟩ (dq dt_X9_next 50 rfl) (fun H locs hw => ?_)
                  refine lv_iload hx hb (dq dt_X9_next 51 rfl) (lv_at hl 6 rfl) ?_
                  refine lv_isub hx hb (dq dt_X9_next 52 rfl) ?_
                  obtain ⟨K19, hK19, hF⟩ := zj1_ hF
                  have J19 : ∀ (y18 : Int32), K19 y18 = some r → ∀ (H : Heap) (locs : List Loc) (ls : Array Slot), kW D A s.heap [(a_m, .inr (9, [.ref a_m_row, .ref a_m_isKept, .ref a_m_text, .int m_length, .ref a_m_read, .int m_readMany, .int m_yards, .ref a_m_tides, .ref a_m_seeps, .int m_seepMany, .ref a_m_kinds, .ref a_m_paces, .ref a_m_ears, .int m_many, .int m_at, .int m_place, .int m_end, .int m_readYards, .int m_readSeeps, .int m_readChildren, .ref a_m_hearers, .ref a_m_chosen, .int m_chosenMany, .ref a_m_dues, .ref a_m_sights, .int m_seenMany])), (a_m_sights, .inl (cI, 27, .inl m_sights))] H locs → lv_has ls 8 [(0, .ref a_m), (1, .int p1), (2, .int v4), (3, .int x6), (4, .int x7), (5, .int x8)] → W p l e rm_X9_next s m args below meth c H locs 0 0 Q (F0 m 117 ls [.int y18]) := by
                    intro y18 hF H locs ls hw hl
                    replace hF := hK19 y18 hF
                    refine lv_istore (lv' := [(7, .int y18), (0, .ref a_m), (1, .int p1), (2, .int v4), (3, .int x6), (4, .int x7), (5, .int x8)]) hx hb (dq dt_X9_next 60 rfl) hl (by decide) rfl (fun ls hl => ?_)
                    refine lv_iload hx hb (dq dt_X9_next 61 rfl) (lv_at hl 0 rfl) ?_
                    refine lv_iload hx hb (dq dt_X9_next 62 rfl) (lv_at hl 5 rfl) ?_
                    obtain ⟨K21, hK21, hF⟩ := zj1_ hF
                    have J21 : ∀ (y20 : Int32), K21 y20 = some r → ∀ (H : Heap) (locs : List Loc) (ls : Array Slot), kW D A s.heap [(a_m, .inr (9, [.ref a_m_row, .ref a_m_isKept, .ref a_m_text, .int m_length, .ref a_m_read, .int m_readMany, .int m_yards, .ref a_m_tides, .ref a_m_seeps, .int m_seepMany, .ref a_m_kinds, .ref a_m_paces, .ref a_m_ears, .int m_many, .int m_at, .int m_place, .int m_end, .int m_readYards, .int m_readSeeps, .int m_readChildren, .ref a_m_hearers, .ref a_m_chosen, .int m_chosenMany, .ref a_m_dues, .ref a_m_sights, .int m_seenMany])), (a_m_sights, .inl (cI, 27, .inl m_sights))] H locs → lv_has ls 8 [(0, .ref a_m), (1, .int p1), (2, .int v4), (4, .int x7), (5, .int x8), (7, .int y18)] → W p l e rm_X9_next s m args below meth c H locs 0 0 Q (F0 m 132 ls [.int y20]) := by
                      intro y20 hF H locs ls hw hl
                      replace hF := hK21 y20 hF
                      refine lv_istore_n (lv' := [(3, .int y20), (0, .ref a_m), (1, .int p1), (2, .int v4), (4, .int x7), (5, .int x8), (7, .int y18)]) hx hb (dq dt_X9_next 67 rfl) rfl hl (by decide) rfl (fun ls hl => ?_)
                      refine lv_iload hx hb (dq dt_X9_next 68 rfl) (lv_at hl 6 rfl) ?_
                      refine lv_iload hx hb (dq dt_X9_next 69 rfl) (lv_at hl 4 rfl) ?_
                      refine lv_icmp_ge (tgt := 145) hx hb (dq dt_X9_next 70 rfl) (by decide) (fun c22 => ?_) (fun c22 => ?_)
                      · replace hF := if_t c22 hF
                        refine lv_iload hx hb (dq dt_X9_next 73 rfl) (lv_at hl 4 rfl) ?_
                        refine lv_istore (lv' := [(4, .int x7), (3, .int y20), (0, .ref a_m), (1, .int p1), (2, .int v4), (5, .int x8), (7, .int y18)]) hx hb (dq dt_X9_next 74 rfl) hl (by decide) rfl (fun ls hl => ?_)
                        obtain ⟨v23, ev23, hF⟩ := bd_ hF
                        refine lv_iinc (v := v23) (lv' := [(5, .int v23), (4, .int x7), (3, .int y20), (0, .ref a_m), (1, .int p1), (2, .int v4), (7, .int y18)]) hx hb (dq dt_X9_next 75 rfl) hl (k := 5) rfl ev23.symm (by decide) rfl (fun ls hl => ?_)
                        refine lv_goto (tgt := 29) hx hb (dq dt_X9_next 76 rfl) (by decide) ?_
                        exact ih9 y20 x7 v23 hF _ _ _ hw (lv_sub hl [3, 4, 5, 2, 1, 0] rfl)
                      · replace hF := if_f c22 hF
                        refine lv_iload hx hb (dq dt_X9_next 71 rfl) (lv_at hl 6 rfl) ?_
                        refine lv_goto (tgt := 147) hx hb (dq dt_X9_next 72 rfl) (by decide) ?_
                        refine lv_istore (lv' := [(4, .int y18), (3, .int y20), (0, .ref a_m), (1, .int p1), (2, .int v4), (5, .int x8), (7, .int y18)]) hx hb (dq dt_X9_next 74 rfl) hl (by decide) rfl (fun ls hl => ?_)
                        obtain ⟨v24, ev24, hF⟩ := bd_ hF
                        refine lv_iinc (v := v24) (lv' := [(5, .int v24), (4, .int y18), (3, .int y20), (0, .ref a_m), (1, .int p1), (2, .int v4), (7, .int y18)]) hx hb (dq dt_X9_next 75 rfl) hl (k := 5) rfl ev24.symm (by decide) rfl (fun ls hl => ?_)
                        refine lv_goto (tgt := 29) hx hb (dq dt_X9_next 76 rfl) (by decide) ?_
                        exact ih9 y20 y18 v24 hF _ _ _ hw (lv_sub hl [3, 4, 5, 2, 1, 0] rfl)
                    refine lv_icmp_ge (tgt := 131) hx hb (dq dt_X9_next 63 rfl) (by decide) (fun c25 => ?_) (fun c25 => ?_)
                    · replace hF := if_t c25 hF
                      refine lv_iload_n hx hb (dq dt_X9_next 66 rfl) rfl (lv_at hl 4 rfl) ?_
                      exact J21 x6 hF _ _ _ hw (lv_sub hl [1, 2, 3, 5, 6, 0] rfl)
                    · replace hF := if_f c25 hF
                      refine lv_iload hx hb (dq dt_X9_next 64 rfl) (lv_at hl 6 rfl) ?_
                      refine lv_goto (tgt := 132) hx hb (dq dt_X9_next 65 rfl) (by decide) ?_
                      exact J21 x8 hF _ _ _ hw (lv_sub hl [1, 2, 3, 5, 6, 0] rfl)
                  refine lv_icmp_le (tgt := 110) hx hb (dq dt_X9_next 53 rfl) (by decide) (fun c26 => ?_) (fun c26 => ?_)
                  · replace hF := if_t c26 hF
                    refine lv_iload_n hx hb (dq dt_X9_next 56 rfl) rfl (lv_at hl 2 rfl) ?_
                    obtain ⟨v27, hr28, hF⟩ := zc1_ hF
                    refine kCallSP C hw (A_X9_bits l D cB cI cJ cZ ad v4 v27 hr28) (va_cwS 1 C.2.2.2.2.2.2.1 (w0_S0 q5_125 q5_123 q5_124 q1_10) rfl rfl rfl ke_X9_bits ⟨Nat.le_of_ble_eq_true rfl, Nat.le_of_ble_eq_true rfl⟩) hl.1 rfl rfl rfl (Nat.le_of_ble_eq_true rfl) ⟨Nat.le_of_ble_eq_true rfl, Nat.le_of_ble_eq_true rfl⟩ (dq dt_X9_next 57 rfl) (fun H locs hw => ?_)
                    refine lv_iload hx hb (dq dt_X9_next 58 rfl) (lv_at hl 6 rfl) ?_
                    refine lv_isub hx hb (dq dt_X9_next 59 rfl) ?_
                    exact J19 (v27 - x12) hF _ _ _ hw (lv_sub hl [0, 1, 2, 3, 4, 5] rfl)
                  · replace hF := if_f c26 hF
                    refine lv_iload hx hb (dq dt_X9_next 54 rfl) (lv_at hl 6 rfl) ?_
                    refine lv_goto (tgt := 117) hx hb (dq dt_X9_next 55 rfl) (by decide) ?_
                    exact J19 x12 hF _ _ _ hw (lv_sub hl [0, 1, 2, 3, 4, 5] rfl)
                · replace hF := if_f c15 hF
                  refine lv_iload hx hb (dq dt_X9_next 31 rfl) (lv_at hl 6 rfl) ?_
                  refine lv_iload_n hx hb (dq dt_X9_next 32 rfl) rfl (lv_at hl 2 rfl) ?_
                  refine lv_iload hx hb (dq dt_X9_next 33 rfl) (lv_at hl 7 rfl) ?_
                  obtain ⟨v29, hr30, hF⟩ := zc1_ hF
                  refine kCallSP C hw (A_X9_has l D cB cI cJ cZ ad v4 x13 v29 hr30) (va_cwS 2 C.2.2.2.2.2.2.1 (w0_S0 q5_52 q5_50 q5_51 q1_10) rfl rfl rfl ke_X9_has ⟨Nat.le_of_ble_eq_true rfl, Nat.le_of_ble_eq_true rfl⟩) hl.1 rfl rfl rfl (Nat.le_of_ble_eq_true rfl) ⟨Nat.le_of_ble_eq_true rfl, Nat.le_of_ble_eq_true rfl⟩ (dq dt_X9_next 34 rfl) (fun H locs hw => ?_)
                  obtain ⟨K32, hK32, hF⟩ := zj1_ hF
                  have J32 : ∀ (y31 : Int32), K32 y31 = some r → ∀ (H : Heap) (locs : List Loc) (ls : Array Slot), kW D A s.heap [(a_m, .inr (9, [.ref a_m_row, .ref a_m_isKept, .ref a_m_text, .int m_length, .ref a_m_read, .int m_readMany, .int m_yards, .ref a_m_tides, .ref a_m_seeps, .int m_seepMany, .ref a_m_kinds, .ref a_m_paces, .ref a_m_ears, .int m_many, .int m_at, .int m_place, .int m_end, .int m_readYards, .int m_readSeeps, .int m_readChildren, .ref a_m_hearers, .ref a_m_chosen, .int m_chosenMany, .ref a_m_dues, .ref a_m_sights, .int m_seenMany])), (a_m_sights, .inl (cI, 27, .inl m_sights))] H locs → lv_has ls 8 [(0, .ref a_m), (1, .int p1), (2, .int v4), (3, .int x6), (4, .int x7), (5, .int x8), (7, .int x13)] → W p l e rm_X9_next s m args below meth c H locs 0 0 Q (F0 m 84 ls [.int y31, .int x12]) := by
                    intro y31 hF H locs ls hw hl
                    replace hF := hK32 y31 hF
                    refine lv_iadd hx hb (dq dt_X9_next 44 rfl) ?_
                    obtain ⟨v33, ev33, hF⟩ := bd_ hF
                    refine kNmI ev33 ?_
                    refine lv_istore (lv' := [(6, .int v33), (0, .ref a_m), (1, .int p1), (2, .int v4), (3, .int x6), (4, .int x7), (5, .int x8), (7, .int x13)]) hx hb (dq dt_X9_next 45 rfl) hl (by decide) rfl (fun ls hl => ?_)
                    obtain ⟨v34, ev34, hF⟩ := bd_ hF
                    refine lv_iinc (v := v34) (lv' := [(7, .int v34), (6, .int v33), (0, .ref a_m), (1, .int p1), (2, .int v4), (3, .int x6), (4, .int x7), (5, .int x8)]) hx hb (dq dt_X9_next 46 rfl) hl (k := 7) rfl ev34.symm (by decide) rfl (fun ls hl => ?_)
                    refine lv_goto (tgt := 48) hx hb (dq dt_X9_next 47 rfl) (by decide) ?_
                    exact ih14 v33 v34 hF _ _ _ hw (lv_sub hl [2, 3, 4, 5, 6, 7, 1, 0] rfl)
                  refine lv_if_eq (tgt := 83) hx hb (dq dt_X9_next 35 rfl) (by decide) (fun c35 => ?_) (fun c35 => ?_)
                  · replace hF := if_t c35 hF
                    refine lv_iconst (v := (0 : Int32)) hx hb (dq dt_X9_next 43 rfl) (by decide) ?_
                    exact J32 (0 : Int32) hF _ _ _ hw (lv_sub hl [0, 1, 2, 3, 4, 5, 7] rfl)
                  · replace hF := if_f c35 hF
                    refine lv_iload hx hb (dq dt_X9_next 36 rfl) (lv_at hl 5 rfl) ?_
                    refine lv_iload hx hb (dq dt_X9_next 37 rfl) (lv_at hl 7 rfl) ?_
                    obtain ⟨v36, hr37, hF⟩ := zc1_ hF
                    refine kCallSP C hw (A_X9_far l D cB cI cJ cZ ad x8 x13 v36 hr37) (va_cwS 2 C.2.2.2.2.2.2.1 (w0_S0 q5_55 q5_53 q5_54 q1_10) rfl rfl rfl ke_X9_far ⟨Nat.le_of_ble_eq_true rfl, Nat.le_of_ble_eq_true rfl⟩) hl.1 rfl rfl rfl (Nat.le_of_ble_eq_true rfl) ⟨Nat.le_of_ble_eq_true rfl, Nat.le_of_ble_eq_true rfl⟩ (dq dt_X9_next 38 rfl) (fun H locs hw => ?_)
                    refine lv_iload_n hx hb (dq dt_X9_next 39 rfl) rfl (lv_at hl 1 rfl) ?_
                    refine lv_icmp_gt (tgt := 83) hx hb (dq dt_X9_next 40 rfl) (by decide) (fun c38 => ?_) (fun c38 => ?_)
                    · replace hF := if_t c38 hF
                      refine lv_iconst (v := (0 : Int32)) hx hb (dq dt_X9_next 43 rfl) (by decide) ?_
                      exact J32 (0 : Int32) hF _ _ _ hw (lv_sub hl [0, 1, 2, 3, 4, 5, 7] rfl)
                    · replace hF := if_f c38 hF
                      refine lv_iconst (v := (1 : Int32)) hx hb (dq dt_X9_next 41 rfl) (by decide) ?_
                      refine lv_goto (tgt := 84) hx hb (dq dt_X9_next 42 rfl) (by decide) ?_
                      exact J32 (1 : Int32) hF _ _ _ hw (lv_sub hl [0, 1, 2, 3, 4, 5, 7] rfl)
            exact L14 _ (0 : Int32) (0 : Int32) hF _ _ _ hw (lv_sub hl [2, 3, 4, 5, 6, 7, 1, 0] rfl)
    exact L9 _ (-1 : Int32) (99 : Int32) (0 : Int32) hF _ _ _ hw (lv_sub hl [4, 5, 3, 2, 1, 0] rfl)
  · replace hF := if_t c3 hF
    refine lv_bipush (v := (-3 : Int32)) hx hb (dq dt_X9_next 6 rfl) (by decide) ?_
    cases hF
    exact kRetI hQ C hw (dq dt_X9_next 7 rfl)
def F_X9_count (m_length : Int32) (m_yards : Int32) (m_seepMany : Int32) (m_many : Int32) (m_seenMany : Int32) (m_row : Nat → Int32) (p1 : Int32) : Option (Int32) :=
  zl2 (fun x1 x2 ag3 => if m_seepMany ≤ x2 then (if p1 = (0 : Int32) then (some m_yards) else (if p1 = (1 : Int32) then (some m_seepMany) else (if p1 = (2 : Int32) then (some m_many) else (if p1 = (3 : Int32) then (rd 95 m_row (18 : Int32) (fun v9 => some v9)) else (if p1 = (4 : Int32) then (rd 95 m_row (6 : Int32) (fun v12 => some v12)) else (if p1 = (5 : Int32) then (some x1) else (if p1 = (6 : Int32) then (some m_seenMany) else (if p1 = (7 : Int32) then (some m_length) else (some (-3 : Int32)))))))))) else (rd 95 m_row x2 (fun v17 => zj1 (fun y19 => bd (x1 ||| y19) (fun v21 => bd (x2 + (1 : Int32)) (fun v22 => ag3 v21 v22))) (fun K20 => if v17 = (100 : Int32) then (K20 ((1 : Int32) <<< (x2 &&& 31))) else (K20 (0 : Int32)))))) FU (0 : Int32) (0 : Int32)
abbrev rm_X9_count : Room := { frames := 0, cells := 0, slots := 0, locals := 0 }
theorem kd_X9_count : yX9_count.cls = RX9 ∧ yX9_count.cls ≠ "java/lang/invoke/MethodHandle" ∧ yX9_count.cls ≠ "java/lang/invoke/VarHandle" ∧ (parseMethodDescriptor yX9_count.desc).map (fun d => d.parameters.length) = some 1 := by decide +kernel
set_option maxRecDepth 100000 in
set_option maxHeartbeats 4000000 in
theorem A_X9_count (l : Launch) (D : va_G) (cB cI cJ cZ : ClassId) (ad : (Nat → Nat) × (Nat → Nat)) (a_m a_m_row a_m_isKept a_m_text a_m_read a_m_tides a_m_seeps a_m_kinds a_m_paces a_m_ears a_m_hearers a_m_chosen a_m_dues a_m_sights : Nat) (m_length : Int32) (m_readMany : Int32) (m_yards : Int32) (m_seepMany : Int32) (m_many : Int32) (m_at : Int32) (m_place : Int32) (m_end : Int32) (m_readYards : Int32) (m_readSeeps : Int32) (m_readChildren : Int32) (m_chosenMany : Int32) (m_seenMany : Int32) (m_row : Nat → Int32) (p1 : Int32) (r : Int32) (hF : F_X9_count m_length m_yards m_seepMany m_many m_seenMany m_row p1 = some r) : kM l yX9_count (Cond.code yX9_count cX9_count 4 (some .int) :: W0) rm_X9_count D (kT cB cI cJ cZ) ad [.ref a_m, .int p1] [(a_m, .inr (9, [.ref a_m_row, .ref a_m_isKept, .ref a_m_text, .int m_length, .ref a_m_read, .int m_readMany, .int m_yards, .ref a_m_tides, .ref a_m_seeps, .int m_seepMany, .ref a_m_kinds, .ref a_m_paces, .ref a_m_ears, .int m_many, .int m_at, .int m_place, .int m_end, .int m_readYards, .int m_readSeeps, .int m_readChildren, .ref a_m_hearers, .ref a_m_chosen, .int m_chosenMany, .ref a_m_dues, .ref a_m_sights, .int m_seenMany])), (a_m_row, .inl (cI, 95, .inl m_row))] (some (.int r)) [(a_m, .inr (9, [.ref a_m_row, .ref a_m_isKept, .ref a_m_text, .int m_length, .ref a_m_read, .int m_readMany, .int m_yards, .ref a_m_tides, .ref a_m_seeps, .int m_seepMany, .ref a_m_kinds, .ref a_m_paces, .ref a_m_ears, .int m_many, .int m_at, .int m_place, .int m_end, .int m_readYards, .int m_readSeeps, .int m_readChildren, .ref a_m_hearers, .ref a_m_chosen, .int m_chosenMany, .ref a_m_dues, .ref a_m_sights, .int m_seenMany])), (a_m_row, .inl (cI, 95, .inl m_row))] := by
  unfold F_X9_count at hF
  refine kStart (lv := [(0, .ref a_m), (1, .int p1)]) (own := "DikeWatchModel") (plainFor_of_name (by decide)) rfl (Nat.le_of_ble_eq_true rfl) rfl ?_
  intro p e s m args below meth c A Q ls hQ C hx hb hw hl
  refine lv_iconst (v := (0 : Int32)) hx hb (dq dt_X9_count 0 rfl) (by decide) ?_
  refine lv_istore_n (lv' := [(2, .int (0 : Int32)), (0, .ref a_m), (1, .int p1)]) hx hb (dq dt_X9_count 1 rfl) rfl hl (by decide) rfl (fun ls hl => ?_)
  refine lv_iconst (v := (0 : Int32)) hx hb (dq dt_X9_count 2 rfl) (by decide) ?_
  refine lv_istore_n (lv' := [(3, .int (0 : Int32)), (2, .int (0 : Int32)), (0, .ref a_m), (1, .int p1)]) hx hb (dq dt_X9_count 3 rfl) rfl hl (by decide) rfl (fun ls hl => ?_)
  obtain ⟨K3, hK03, hK3, hF⟩ := zl2_ hF
  have L3 : ∀ (n : Nat) (x1 : Int32) (x2 : Int32), K3 n x1 x2 = some r → ∀ (H : Heap) (locs : List Loc) (ls : Array Slot), kW D A s.heap [(a_m, .inr (9, [.ref a_m_row, .ref a_m_isKept, .ref a_m_text, .int m_length, .ref a_m_read, .int m_readMany, .int m_yards, .ref a_m_tides, .ref a_m_seeps, .int m_seepMany, .ref a_m_kinds, .ref a_m_paces, .ref a_m_ears, .int m_many, .int m_at, .int m_place, .int m_end, .int m_readYards, .int m_readSeeps, .int m_readChildren, .ref a_m_hearers, .ref a_m_chosen, .int m_chosenMany, .ref a_m_dues, .ref a_m_sights, .int m_seenMany])), (a_m_row, .inl (cI, 95, .inl m_row))] H locs → lv_has ls 4 [(0, .ref a_m), (1, .int p1), (2, .int x1), (3, .int x2)] → W p l e rm_X9_count s m args below meth c H locs 0 0 Q (F0 m 4 ls []) := by
    intro n
    induction n with
    | zero => intro x1 x2 hF; exact (lp_no (hK03 x1 x2) hF).elim
    | succ n ih3 =>
      intro x1 x2 hF H locs ls hw hl
      replace hF := hK3 n x1 x2 hF
      refine lv_iload_n hx hb (dq dt_X9_count 4 rfl) rfl (lv_at hl 3 rfl) ?_
      refine lv_aload_n hx hb (dq dt_X9_count 5 rfl) rfl (lv_at hl 0 rfl) ?_
      refine kGet (ci := 9) C in_X9 hw 0 rfl rfl 9 (by decide) (C.2.2.2.2.2.2.1 _ q4_104) rfl rfl (dq dt_X9_count 6 rfl) ?_
      refine lv_icmp_ge (tgt := 39) hx hb (dq dt_X9_count 7 rfl) (by decide) (fun c4 => ?_) (fun c4 => ?_)
      · replace hF := if_t c4 hF
        refine lv_iload_n hx hb (dq dt_X9_count 24 rfl) rfl (lv_at hl 1 rfl) ?_
        by_cases c5 : p1 = (0 : Int32)
        · replace hF := if_t c5 hF
          refine lv_tableIn (lo := 0) (hi := 7) (tgt := 88) hx hb (dq dt_X9_count 25 rfl) (by rw [c5]; decide) (by rw [c5]; decide) (by rw [c5]; rfl) (by decide) ?_
          refine lv_aload_n hx hb (dq dt_X9_count 26 rfl) rfl (lv_at hl 0 rfl) ?_
          refine kGet (ci := 9) C in_X9 hw 0 rfl rfl 6 (by decide) (C.2.2.2.2.2.2.1 _ q4_101) rfl rfl (dq dt_X9_count 27 rfl) ?_
          cases hF
          exact kRetI hQ C hw (dq dt_X9_count 28 rfl)
        replace hF := if_f c5 hF
        by_cases c6 : p1 = (1 : Int32)
        · replace hF := if_t c6 hF
          refine lv_tableIn (lo := 0) (hi := 7) (tgt := 93) hx hb (dq dt_X9_count 25 rfl) (by rw [c6]; decide) (by rw [c6]; decide) (by rw [c6]; rfl) (by decide) ?_
          refine lv_aload_n hx hb (dq dt_X9_count 29 rfl) rfl (lv_at hl 0 rfl) ?_
          refine kGet (ci := 9) C in_X9 hw 0 rfl rfl 9 (by decide) (C.2.2.2.2.2.2.1 _ q4_104) rfl rfl (dq dt_X9_count 30 rfl) ?_
          cases hF
          exact kRetI hQ C hw (dq dt_X9_count 31 rfl)
        replace hF := if_f c6 hF
        by_cases c7 : p1 = (2 : Int32)
        · replace hF := if_t c7 hF
          refine lv_tableIn (lo := 0) (hi := 7) (tgt := 98) hx hb (dq dt_X9_count 25 rfl) (by rw [c7]; decide) (by rw [c7]; decide) (by rw [c7]; rfl) (by decide) ?_
          refine lv_aload_n hx hb (dq dt_X9_count 32 rfl) rfl (lv_at hl 0 rfl) ?_
          refine kGet (ci := 9) C in_X9 hw 0 rfl rfl 13 (by decide) (C.2.2.2.2.2.2.1 _ q4_108) rfl rfl (dq dt_X9_count 33 rfl) ?_
          cases hF
          exact kRetI hQ C hw (dq dt_X9_count 34 rfl)
        replace hF := if_f c7 hF
        by_cases c8 : p1 = (3 : Int32)
        · replace hF := if_t c8 hF
          refine lv_tableIn (lo := 0) (hi := 7) (tgt := 103) hx hb (dq dt_X9_count 25 rfl) (by rw [c8]; decide) (by rw [c8]; decide) (by rw [c8]; rfl) (by decide) ?_
          refine lv_aload_n hx hb (dq dt_X9_count 35 rfl) rfl (lv_at hl 0 rfl) ?_
          refine kGet (ci := 9) C in_X9 hw 0 rfl rfl 0 (by decide) (C.2.2.2.2.2.2.1 _ q4_95) rfl rfl (dq dt_X9_count 36 rfl) ?_
          refine lv_bipush (v := (18 : Int32)) hx hb (dq dt_X9_count 37 rfl) (by decide) ?_
          obtain ⟨v9, ev9, hi10, hF⟩ := rd_ hF
          refine kIald C hw 1 1 rfl rfl hi10 ev9 (dq dt_X9_count 38 rfl) ?_
          cases hF
          exact kRetI hQ C hw (dq dt_X9_count 39 rfl)
        replace hF := if_f c8 hF
        by_cases c11 : p1 = (4 : Int32)
        · replace hF := if_t c11 hF
          refine lv_tableIn (lo := 0) (hi := 7) (tgt := 111) hx hb (dq dt_X9_count 25 rfl) (by rw [c11]; decide) (by rw [c11]; decide) (by rw [c11]; rfl) (by decide) ?_
          refine lv_aload_n hx hb (dq dt_X9_count 40 rfl) rfl (lv_at hl 0 rfl) ?_
          refine kGet (ci := 9) C in_X9 hw 0 rfl rfl 0 (by decide) (C.2.2.2.2.2.2.1 _ q4_95) rfl rfl (dq dt_X9_count 41 rfl) ?_
          refine lv_bipush (v := (6 : Int32)) hx hb (dq dt_X9_count 42 rfl) (by decide) ?_
          obtain ⟨v12, ev12, hi13, hF⟩ := rd_ hF
          refine kIald C hw 1 1 rfl rfl hi13 ev12 (dq dt_X9_count 43 rfl) ?_
          cases hF
          exact kRetI hQ C hw (dq dt_X9_count 44 rfl)
        replace hF := if_f c11 hF
        by_cases c14 : p1 = (5 : Int32)
        · replace hF := if_t c14 hF
          refine lv_tableIn (lo := 0) (hi := 7) (tgt := 119) hx hb (dq dt_X9_count 25 rfl) (by rw [c14]; decide) (by rw [c14]; decide) (by rw [c14]; rfl) (by decide) ?_
          refine lv_iload_n hx hb (dq dt_X9_count 45 rfl) rfl (lv_at hl 2 rfl) ?_
          cases hF
          exact kRetI hQ C hw (dq dt_X9_count 46 rfl)
        replace hF := if_f c14 hF
        by_cases c15 : p1 = (6 : Int32)
        · replace hF := if_t c15 hF
          refine lv_tableIn (lo := 0) (hi := 7) (tgt := 121) hx hb (dq dt_X9_count 25 rfl) (by rw [c15]; decide) (by rw [c15]; decide) (by rw [c15]; rfl) (by decide) ?_
          refine lv_aload_n hx hb (dq dt_X9_count 47 rfl) rfl (lv_at hl 0 rfl) ?_
          refine kGet (ci := 9) C in_X9 hw 0 rfl rfl 25 (by decide) (C.2.2.2.2.2.2.1 _ q4_120) rfl rfl (dq dt_X9_count 48 rfl) ?_
          cases hF
          exact kRetI hQ C hw (dq dt_X9_count 49 rfl)
        replace hF := if_f c15 hF
        by_cases c16 : p1 = (7 : Int32)
        · replace hF := if_t c16 hF
          refine lv_tableIn (lo := 0) (hi := 7) (tgt := 126) hx hb (dq dt_X9_count 25 rfl) (by rw [c16]; decide) (by rw [c16]; decide) (by rw [c16]; rfl) (by decide) ?_
          refine lv_aload_n hx hb (dq dt_X9_count 50 rfl) rfl (lv_at hl 0 rfl) ?_
          refine kGet (ci := 9) C in_X9 hw 0 rfl rfl 3 (by decide) (C.2.2.2.2.2.2.1 _ q4_98) rfl rfl (dq dt_X9_count 51 rfl) ?_
          cases hF
          exact kRetI hQ C hw (dq dt_X9_count 52 rfl)
        replace hF := if_f c16 hF
        refine lv_tableOut (lo := 0) (hi := 7) (tgt := 131) hx hb (dq dt_X9_count 25 rfl) (tb_out (n := 8) (by decide) (fun i hi => by match i, hi with | 0, _ => exact c5 | 1, _ => exact c6 | 2, _ => exact c7 | 3, _ => exact c8 | 4, _ => exact c11 | 5, _ => exact c14 | 6, _ => exact c15 | 7, _ => exact c16 | i + 8, hi => exact absurd hi (by omega))) (by decide) ?_
        refine lv_bipush (v := (-3 : Int32)) hx hb (dq dt_X9_count 53 rfl) (by decide) ?_
        cases hF
        exact kRetI hQ C hw (dq dt_X9_count 54 rfl)
      · replace hF := if_f c4 hF
        refine lv_iload_n hx hb (dq dt_X9_count 8 rfl) rfl (lv_at hl 2 rfl) ?_
        refine lv_aload_n hx hb (dq dt_X9_count 9 rfl) rfl (lv_at hl 0 rfl) ?_
        refine kGet (ci := 9) C in_X9 hw 0 rfl rfl 0 (by decide) (C.2.2.2.2.2.2.1 _ q4_95) rfl rfl (dq dt_X9_count 10 rfl) ?_
        refine lv_iload_n hx hb (dq dt_X9_count 11 rfl) rfl (lv_at hl 3 rfl) ?_
        obtain ⟨v17, ev17, hi18, hF⟩ := rd_ hF
        refine kIald C hw 1 1 rfl rfl hi18 ev17 (dq dt_X9_count 12 rfl) ?_
        refine lv_bipush (v := (100 : Int32)) hx hb (dq dt_X9_count 13 rfl) (by decide) ?_
        obtain ⟨K20, hK20, hF⟩ := zj1_ hF
        have J20 : ∀ (y19 : Int32), K20 y19 = some r → ∀ (H : Heap) (locs : List Loc) (ls : Array Slot), kW D A s.heap [(a_m, .inr (9, [.ref a_m_row, .ref a_m_isKept, .ref a_m_text, .int m_length, .ref a_m_read, .int m_readMany, .int m_yards, .ref a_m_tides, .ref a_m_seeps, .int m_seepMany, .ref a_m_kinds, .ref a_m_paces, .ref a_m_ears, .int m_many, .int m_at, .int m_place, .int m_end, .int m_readYards, .int m_readSeeps, .int m_readChildren, .ref a_m_hearers, .ref a_m_chosen, .int m_chosenMany, .ref a_m_dues, .ref a_m_sights, .int m_seenMany])), (a_m_row, .inl (cI, 95, .inl m_row))] H locs → lv_has ls 4 [(0, .ref a_m), (1, .int p1), (3, .int x2)] → W p l e rm_X9_count s m args below meth c H locs 0 0 Q (F0 m 31 ls [.int y19, .int x1]) := by
          intro y19 hF H locs ls hw hl
          replace hF := hK20 y19 hF
          refine lv_ior hx hb (dq dt_X9_count 20 rfl) ?_
          obtain ⟨v21, ev21, hF⟩ := bd_ hF
          refine kNmI ev21 ?_
          refine lv_istore_n (lv' := [(2, .int v21), (0, .ref a_m), (1, .int p1), (3, .int x2)]) hx hb (dq dt_X9_count 21 rfl) rfl hl (by decide) rfl (fun ls hl => ?_)
          obtain ⟨v22, ev22, hF⟩ := bd_ hF
          refine lv_iinc (v := v22) (lv' := [(3, .int v22), (2, .int v21), (0, .ref a_m), (1, .int p1)]) hx hb (dq dt_X9_count 22 rfl) hl (k := 3) rfl ev22.symm (by decide) rfl (fun ls hl => ?_)
          refine lv_goto (tgt := 4) hx hb (dq dt_X9_count 23 rfl) (by decide) ?_
          exact ih3 v21 v22 hF _ _ _ hw (lv_sub hl [2, 3, 1, 0] rfl)
        refine lv_icmp_ne (tgt := 30) hx hb (dq dt_X9_count 14 rfl) (by decide) (fun c23 => ?_) (fun c23 => ?_)
        · replace hF := if_f c23 hF
          refine lv_iconst (v := (0 : Int32)) hx hb (dq dt_X9_count 19 rfl) (by decide) ?_
          exact J20 (0 : Int32) hF _ _ _ hw (lv_sub hl [0, 1, 3] rfl)
        · replace hF := if_t c23 hF
          refine lv_iconst (v := (1 : Int32)) hx hb (dq dt_X9_count 15 rfl) (by decide) ?_
          refine lv_iload_n hx hb (dq dt_X9_count 16 rfl) rfl (lv_at hl 3 rfl) ?_
          refine lv_ishl hx hb (dq dt_X9_count 17 rfl) ?_
          refine lv_goto (tgt := 31) hx hb (dq dt_X9_count 18 rfl) (by decide) ?_
          exact J20 ((1 : Int32) <<< (x2 &&& 31)) hF _ _ _ hw (lv_sub hl [0, 1, 3] rfl)
  exact L3 _ (0 : Int32) (0 : Int32) hF _ _ _ hw (lv_sub hl [2, 3, 1, 0] rfl)
