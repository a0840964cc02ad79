def F_X8_isWithin (p1 : Int32) (p2 : Int32) (p3 : Int32) : Option (Int32) :=
  if p1 < p2 then (some (0 : Int32)) else (if p3 < p1 then (some (0 : Int32)) else (some (1 : Int32)))
abbrev rm_X8_isWithin : Room := { frames := 0, cells := 0, slots := 0, locals := 0 }
theorem ke_X8_isWithin : yX8_isWithin.cls ≠ "java/lang/invoke/MethodHandle" ∧ yX8_isWithin.cls ≠ "java/lang/invoke/VarHandle" ∧ (parseMethodDescriptor yX8_isWithin.desc).map (fun d => d.parameters.length) = some 3 := by decide +kernel
set_option maxRecDepth 100000 in
set_option maxHeartbeats 4000000 in
theorem A_X8_isWithin (l : Launch) (D : va_G) (cB cI cJ cZ : ClassId) (ad : (Nat → Nat) × (Nat → Nat)) (p1 : Int32) (p2 : Int32) (p3 : Int32) (r : Int32) (hF : F_X8_isWithin p1 p2 p3 = some r) : kM l yX8_isWithin (Cond.code yX8_isWithin cX8_isWithin 3 (some .boolean) :: W0) rm_X8_isWithin D (kT cB cI cJ cZ) ad [.int p1, .int p2, .int p3] [] (some (.int r)) [] := by
  unfold F_X8_isWithin at hF
  refine kStart (lv := [(0, .int p1), (1, .int p2), (2, .int p3)]) (own := "DikeWatch") (plainFor_of_name (by decide)) rfl (Nat.le_of_ble_eq_true rfl) rfl ?_
  intro p e s m args below meth c A Q ls hQ C hx hb hw hl
  refine lv_iload_n hx hb (dq dt_X8_isWithin 0 rfl) rfl (lv_at hl 0 rfl) ?_
  refine lv_iload_n hx hb (dq dt_X8_isWithin 1 rfl) rfl (lv_at hl 1 rfl) ?_
  refine lv_icmp_lt (tgt := 14) hx hb (dq dt_X8_isWithin 2 rfl) (by decide) (fun c1 => ?_) (fun c1 => ?_)
  · replace hF := if_t c1 hF
    refine lv_iconst (v := (0 : Int32)) hx hb (dq dt_X8_isWithin 8 rfl) (by decide) ?_
    cases hF
    exact kRetZ hQ C rfl hw (dq dt_X8_isWithin 9 rfl)
  · replace hF := if_f c1 hF
    refine lv_iload_n hx hb (dq dt_X8_isWithin 3 rfl) rfl (lv_at hl 0 rfl) ?_
    refine lv_iload_n hx hb (dq dt_X8_isWithin 4 rfl) rfl (lv_at hl 2 rfl) ?_
    refine lv_icmp_gt (tgt := 14) hx hb (dq dt_X8_isWithin 5 rfl) (by decide) (fun c2 => ?_) (fun c2 => ?_)
    · replace hF := if_t c2 hF
      refine lv_iconst (v := (0 : Int32)) hx hb (dq dt_X8_isWithin 8 rfl) (by decide) ?_
      cases hF
      exact kRetZ hQ C rfl hw (dq dt_X8_isWithin 9 rfl)
    · replace hF := if_f c2 hF
      refine lv_iconst (v := (1 : Int32)) hx hb (dq dt_X8_isWithin 6 rfl) (by decide) ?_
      refine lv_goto (tgt := 15) hx hb (dq dt_X8_isWithin 7 rfl) (by decide) ?_
      cases hF
      exact kRetZ hQ C rfl hw (dq dt_X8_isWithin 9 rfl)
def F_X6_hasRoomFor (x_length : Int32) (p1 : Int32) : Option (Int32) :=
  if ((200 : Int32) - x_length) < p1 then (some (0 : Int32)) else (some (1 : Int32))
abbrev rm_X6_hasRoomFor : Room := { frames := 0, cells := 0, slots := 0, locals := 0 }
theorem kd_X6_hasRoomFor : yX6_hasRoomFor.cls = RX6 ∧ yX6_hasRoomFor.cls ≠ "java/lang/invoke/MethodHandle" ∧ yX6_hasRoomFor.cls ≠ "java/lang/invoke/VarHandle" ∧ (parseMethodDescriptor yX6_hasRoomFor.desc).map (fun d => d.parameters.length) = some 1 := by decide +kernel
set_option maxRecDepth 100000 in
set_option maxHeartbeats 4000000 in
theorem A_X6_hasRoomFor (l : Launch) (D : va_G) (cB cI cJ cZ : ClassId) (ad : (Nat → Nat) × (Nat → Nat)) (a_x a_x_signs : Nat) (x_length : Int32) (p1 : Int32) (r : Int32) (hF : F_X6_hasRoomFor x_length p1 = some r) : kM l yX6_hasRoomFor (Cond.code yX6_hasRoomFor cX6_hasRoomFor 2 (some .boolean) :: W0) rm_X6_hasRoomFor D (kT cB cI cJ cZ) ad [.ref a_x, .int p1] [(a_x, .inr (6, [.ref a_x_signs, .int x_length]))] (some (.int r)) [(a_x, .inr (6, [.ref a_x_signs, .int x_length]))] := by
  unfold F_X6_hasRoomFor at hF
  refine kStart (lv := [(0, .ref a_x), (1, .int p1)]) (own := "DikeWatch$Text") (plainFor_of_name (by decide)) rfl (Nat.le_of_ble_eq_true rfl) rfl ?_
  intro p e s m args below meth c A Q ls hQ C hx hb hw hl
  refine lv_iload_n hx hb (dq dt_X6_hasRoomFor 0 rfl) rfl (lv_at hl 1 rfl) ?_
  refine lv_sipush (v := (200 : Int32)) hx hb (dq dt_X6_hasRoomFor 1 rfl) (by decide) ?_
  refine lv_aload_n hx hb (dq dt_X6_hasRoomFor 2 rfl) rfl (lv_at hl 0 rfl) ?_
  refine kGet (ci := 6) C in_X6 hw 0 rfl rfl 1 (by decide) (C.2.2.2.2.2.2.1 _ q1_34) rfl rfl (dq dt_X6_hasRoomFor 3 rfl) ?_
  refine lv_isub hx hb (dq dt_X6_hasRoomFor 4 rfl) ?_
  refine lv_icmp_gt (tgt := 16) hx hb (dq dt_X6_hasRoomFor 5 rfl) (by decide) (fun c1 => ?_) (fun c1 => ?_)
  · replace hF := if_t c1 hF
    refine lv_iconst (v := (0 : Int32)) hx hb (dq dt_X6_hasRoomFor 8 rfl) (by decide) ?_
    cases hF
    exact kRetZ hQ C rfl hw (dq dt_X6_hasRoomFor 9 rfl)
  · replace hF := if_f c1 hF
    refine lv_iconst (v := (1 : Int32)) hx hb (dq dt_X6_hasRoomFor 6 rfl) (by decide) ?_
    refine lv_goto (tgt := 17) hx hb (dq dt_X6_hasRoomFor 7 rfl) (by decide) ?_
    cases hF
    exact kRetZ hQ C rfl hw (dq dt_X6_hasRoomFor 9 rfl)
def F_X6_add (x_length : Int32) (x_signs : Nat → Int32) (p1 : Int64) (p2 : Int32) : Option (Int32 × (Nat → Int32)) :=
  zl3 (fun x1 h2 h3 ag4 => if p2 ≤ x1 then (some (h2, h3)) else (if (200 : Int32) ≤ h2 then (some (h2, h3)) else (bd (((p1 >>> (((8 : Int32) * x1).toInt64 &&& 63)).toInt32).toInt8.toInt32) (fun v7 => wr 200 h2 (upd h3 (h2).toNatClampNeg (vp_nar .byte v7)) (fun g8 => bd (h2 + (1 : Int32)) (fun v10 => bd (x1 + (1 : Int32)) (fun v11 => ag4 v11 v10 g8))))))) FU (0 : Int32) x_length x_signs
abbrev rm_X6_add : Room := { frames := 0, cells := 0, slots := 0, locals := 0 }
theorem kd_X6_add : yX6_add.cls = RX6 ∧ yX6_add.cls ≠ "java/lang/invoke/MethodHandle" ∧ yX6_add.cls ≠ "java/lang/invoke/VarHandle" ∧ (parseMethodDescriptor yX6_add.desc).map (fun d => d.parameters.length) = some 2 := by decide +kernel
set_option maxRecDepth 100000 in
set_option maxHeartbeats 4000000 in
theorem A_X6_add (l : Launch) (D : va_G) (cB cI cJ cZ : ClassId) (ad : (Nat → Nat) × (Nat → Nat)) (a_x a_x_signs : Nat) (x_length : Int32) (x_signs : Nat → Int32) (p1 : Int64) (p2 : Int32) (x_length' : Int32) (x_signs' : Nat → Int32) (hF : F_X6_add x_length x_signs p1 p2 = some (x_length', x_signs')) : kM l yX6_add (Cond.code yX6_add cX6_add 5 (none) :: W0) rm_X6_add D (kT cB cI cJ cZ) ad [.ref a_x, .long p1, .int p2] [(a_x, .inr (6, [.ref a_x_signs, .int x_length])), (a_x_signs, .inl (cB, 200, .inl x_signs))] none [(a_x, .inr (6, [.ref a_x_signs, .int (x_length')])), (a_x_signs, .inl (cB, 200, .inl (x_signs')))] := by
  unfold F_X6_add at hF
  refine kStart (lv := [(0, .ref a_x), (1, .long p1), (3, .int p2)]) (own := "DikeWatch$Text") (plainFor_of_name (by decide)) rfl (Nat.le_of_ble_eq_true rfl) rfl ?_
  intro p e s m args below meth c A Q ls hQ C hx hb hw hl
  refine lv_iconst (v := (0 : Int32)) hx hb (dq dt_X6_add 0 rfl) (by decide) ?_
  refine lv_istore (lv' := [(4, .int (0 : Int32)), (0, .ref a_x), (1, .long p1), (3, .int p2)]) hx hb (dq dt_X6_add 1 rfl) hl (by decide) rfl (fun ls hl => ?_)
  obtain ⟨K4, hK04, hK4, hF⟩ := zl3_ hF
  have L4 : ∀ (n : Nat) (x1 : Int32) (h2 : Int32) (h3 : Nat → Int32), K4 n x1 h2 h3 = some (x_length', x_signs') → ∀ (H : Heap) (locs : List Loc) (ls : Array Slot), kW D A s.heap [(a_x, .inr (6, [.ref a_x_signs, .int h2])), (a_x_signs, .inl (cB, 200, .inl h3))] H locs → lv_has ls 5 [(0, .ref a_x), (1, .long p1), (3, .int p2), (4, .int x1)] → W p l e rm_X6_add s m args below meth c H locs 0 0 Q (F0 m 3 ls []) := by
    intro n
    induction n with
    | zero => intro x1 h2 h3 hF; exact (lp_no (hK04 x1 h2 h3) hF).elim
    | succ n ih4 =>
      intro x1 h2 h3 hF H locs ls hw hl
      replace hF := hK4 n x1 h2 h3 hF
      refine lv_iload hx hb (dq dt_X6_add 2 rfl) (lv_at hl 3 rfl) ?_
      refine lv_iload_n hx hb (dq dt_X6_add 3 rfl) rfl (lv_at hl 2 rfl) ?_
      refine lv_icmp_ge (tgt := 53) hx hb (dq dt_X6_add 4 rfl) (by decide) (fun c5 => ?_) (fun c5 => ?_)
      · replace hF := if_t c5 hF
        cases hF
        exact kRetV hQ C hw (dq dt_X6_add 29 rfl)
      · replace hF := if_f c5 hF
        refine lv_aload_n hx hb (dq dt_X6_add 5 rfl) rfl (lv_at hl 0 rfl) ?_
        refine kGet (ci := 6) C in_X6 hw 0 rfl rfl 1 (by decide) (C.2.2.2.2.2.2.1 _ q1_34) rfl rfl (dq dt_X6_add 6 rfl) ?_
        refine lv_sipush (v := (200 : Int32)) hx hb (dq dt_X6_add 7 rfl) (by decide) ?_
        refine lv_icmp_ge (tgt := 53) hx hb (dq dt_X6_add 8 rfl) (by decide) (fun c6 => ?_) (fun c6 => ?_)
        · replace hF := if_t c6 hF
          cases hF
          exact kRetV hQ C hw (dq dt_X6_add 29 rfl)
        · replace hF := if_f c6 hF
          refine lv_aload_n hx hb (dq dt_X6_add 9 rfl) rfl (lv_at hl 0 rfl) ?_
          refine kGet (ci := 6) C in_X6 hw 0 rfl rfl 0 (by decide) (C.2.2.2.2.2.2.1 _ q1_33) rfl rfl (dq dt_X6_add 10 rfl) ?_
          refine lv_aload_n hx hb (dq dt_X6_add 11 rfl) rfl (lv_at hl 0 rfl) ?_
          refine kGet (ci := 6) C in_X6 hw 0 rfl rfl 1 (by decide) (C.2.2.2.2.2.2.1 _ q1_34) rfl rfl (dq dt_X6_add 12 rfl) ?_
          refine lv_lload_n hx hb (dq dt_X6_add 13 rfl) rfl (lv_at hl 1 rfl) ?_
          refine lv_bipush (v := (8 : Int32)) hx hb (dq dt_X6_add 14 rfl) (by decide) ?_
          refine lv_iload hx hb (dq dt_X6_add 15 rfl) (lv_at hl 3 rfl) ?_
          refine lv_imul hx hb (dq dt_X6_add 16 rfl) ?_
          refine lv_lshr (v := (p1 >>> (((8 : Int32) * x1).toInt64 &&& 63))) hx hb (dq dt_X6_add 17 rfl) rfl ?_
          refine lv_l2i (v := ((p1 >>> (((8 : Int32) * x1).toInt64 &&& 63)).toInt32)) hx hb (dq dt_X6_add 18 rfl) rfl ?_
          refine lv_i2b (v := (((p1 >>> (((8 : Int32) * x1).toInt64 &&& 63)).toInt32).toInt8.toInt32)) hx hb (dq dt_X6_add 19 rfl) rfl ?_
          obtain ⟨v7, ev7, hF⟩ := bd_ hF
          refine kNmI ev7 ?_
          obtain ⟨g8, eg8, hi9, hF⟩ := wr_ hF
          refine kBast (ws' := [(a_x, .inr (6, [.ref a_x_signs, .int h2])), (a_x_signs, .inl (cB, 200, .inl g8))]) C hw 1 0 rfl rfl hi9 eg8 rfl (dq dt_X6_add 20 rfl) (fun H locs hw => ?_)
          refine lv_aload_n hx hb (dq dt_X6_add 21 rfl) rfl (lv_at hl 0 rfl) ?_
          refine lv_dup hx hb (dq dt_X6_add 22 rfl) rfl ?_
          refine kGet (ci := 6) C in_X6 hw 0 rfl rfl 1 (by decide) (C.2.2.2.2.2.2.1 _ q1_34) rfl rfl (dq dt_X6_add 23 rfl) ?_
          refine lv_iconst (v := (1 : Int32)) hx hb (dq dt_X6_add 24 rfl) (by decide) ?_
          refine lv_iadd hx hb (dq dt_X6_add 25 rfl) ?_
          obtain ⟨v10, ev10, hF⟩ := bd_ hF
          refine kNmI ev10 ?_
          refine kPut (ci := 6) (ws' := [(a_x, .inr (6, [.ref a_x_signs, .int v10])), (a_x_signs, .inl (cB, 200, .inl g8))]) C in_X6 tyX6 tyX6_ok nmX6 hw 0 rfl rfl 1 (by decide) (C.2.2.2.2.2.2.1 _ q1_34) rfl rfl rfl rfl (Nat.le_of_ble_eq_true rfl) rfl (dq dt_X6_add 26 rfl) (fun H locs hw => ?_)
          obtain ⟨v11, ev11, hF⟩ := bd_ hF
          refine lv_iinc (v := v11) (lv' := [(4, .int v11), (0, .ref a_x), (1, .long p1), (3, .int p2)]) hx hb (dq dt_X6_add 27 rfl) hl (k := 3) rfl ev11.symm (by decide) rfl (fun ls hl => ?_)
          refine lv_goto (tgt := 3) hx hb (dq dt_X6_add 28 rfl) (by decide) ?_
          exact ih4 v11 v10 g8 hF _ _ _ hw (lv_sub hl [1, 2, 3, 0] rfl)
  exact L4 _ (0 : Int32) x_length x_signs hF _ _ _ hw (lv_sub hl [1, 2, 3, 0] rfl)
def F_X8_write (x_length : Int32) (x_signs : Nat → Int32) (p1 : Int64) (p2 : Int32) : Option (Int32 × Int32 × (Nat → Int32)) :=
  zc1 (F_X8_isWithin p2 (1 : Int32) (8 : Int32)) (fun v1 => if v1 = 0 then (some ((-3 : Int32), x_length, x_signs)) else (zc1 (F_X6_hasRoomFor x_length p2) (fun v4 => if v4 = 0 then (some ((-5 : Int32), x_length, x_signs)) else (zc2 (F_X6_add x_length x_signs p1 p2) (fun g7 g8 => some (g7, g7, g8))))))
abbrev rm_X8_write : Room := { frames := 1, cells := 0, slots := 0, locals := 24 }
theorem kd_X8_write : yX8_write.cls = RX8 ∧ yX8_write.cls ≠ "java/lang/invoke/MethodHandle" ∧ yX8_write.cls ≠ "java/lang/invoke/VarHandle" ∧ (parseMethodDescriptor yX8_write.desc).map (fun d => d.parameters.length) = some 2 := by decide +kernel
set_option maxRecDepth 100000 in
set_option maxHeartbeats 4000000 in
theorem A_X8_write (l : Launch) (D : va_G) (cB cI cJ cZ : ClassId) (ad : (Nat → Nat) × (Nat → Nat)) (a_d a_x a_t a_g a_r a_n a_k a_j a_f a_e a_z a_c a_x_signs : Nat) (d_keptBits : Int32) (x_length : Int32) (x_signs : Nat → Int32) (p1 : Int64) (p2 : Int32) (r : Int32) (x_length' : Int32) (x_signs' : Nat → Int32) (hF : F_X8_write x_length x_signs p1 p2 = some (r, x_length', x_signs')) : kM l yX8_write (Cond.code yX8_write cX8_write 4 (some .int) :: W0) rm_X8_write D (kT cB cI cJ cZ) ad [.ref a_d, .long p1, .int p2] [(a_d, .inr (8, [.ref a_x, .ref a_t, .ref a_g, .ref a_r, .ref a_n, .ref a_k, .ref a_j, .int d_keptBits, .ref a_f, .ref a_e, .ref a_z, .ref a_c])), (a_x, .inr (6, [.ref a_x_signs, .int x_length])), (a_x_signs, .inl (cB, 200, .inl x_signs))] (some (.int r)) [(a_d, .inr (8, [.ref a_x, .ref a_t, .ref a_g, .ref a_r, .ref a_n, .ref a_k, .ref a_j, .int d_keptBits, .ref a_f, .ref a_e, .ref a_z, .ref a_c])), (a_x, .inr (6, [.ref a_x_signs, .int (x_length')])), (a_x_signs, .inl (cB, 200, .inl (x_signs')))] := by
  unfold F_X8_write at hF
  refine kStart (lv := [(0, .ref a_d), (1, .long p1), (3, .int p2)]) (own := "DikeWatch") (plainFor_of_name (by decide)) rfl (Nat.le_of_ble_eq_true rfl) rfl ?_
  intro p e s m args below meth c A Q ls hQ C hx hb hw hl
  refine lv_iload_n hx hb (dq dt_X8_write 0 rfl) rfl (lv_at hl 2 rfl) ?_
  refine lv_iconst (v := (1 : Int32)) hx hb (dq dt_X8_write 1 rfl) (by decide) ?_
  refine lv_bipush (v := (8 : Int32)) hx hb (dq dt_X8_write 2 rfl) (by decide) ?_
  obtain ⟨v1, hr2, hF⟩ := zc1_ hF
  refine kCallSP C hw (A_X8_isWithin l D cB cI cJ cZ ad p2 (1 : Int32) (8 : Int32) v1 hr2) (va_cwS 3 C.2.2.2.2.2.2.1 (w0_S0 q2_65 q2_63 q2_64 q1_1) rfl rfl rfl ke_X8_isWithin ⟨Nat.le_of_ble_eq_true rfl, Nat.le_of_ble_eq_true rfl⟩) hl.1 rfl rfl rfl (Nat.le_of_ble_eq_true rfl) ⟨Nat.le_of_ble_eq_true rfl, Nat.le_of_ble_eq_true rfl⟩ (dq dt_X8_write 3 rfl) (fun H locs hw => ?_)
  refine lv_if_ne (tgt := 13) hx hb (dq dt_X8_write 4 rfl) (by decide) (fun c3 => ?_) (fun c3 => ?_)
  · replace hF := if_f c3 hF
    refine lv_aload_n hx hb (dq dt_X8_write 7 rfl) rfl (lv_at hl 0 rfl) ?_
    refine kGet (ci := 8) C in_X8 hw 0 rfl rfl 0 (by decide) (C.2.2.2.2.2.2.1 _ q2_22) rfl rfl (dq dt_X8_write 8 rfl) ?_
    refine lv_iload_n hx hb (dq dt_X8_write 9 rfl) rfl (lv_at hl 2 rfl) ?_
    obtain ⟨v4, hr5, hF⟩ := zc1_ hF
    refine kCallVR C hw (A_X6_hasRoomFor l D cB cI cJ cZ ad a_x a_x_signs x_length p2 v4 hr5) (cwV 1 C.2.2.2.2.2.2.1 (w0_V0 q2_69 q2_66 q2_67 q2_68 q1_2) rfl rfl rfl kd_X6_hasRoomFor ⟨Nat.le_of_ble_eq_true rfl, Nat.le_of_ble_eq_true rfl⟩) [1] rfl rfl 1 6 rfl rfl hl.1 rfl rfl rfl (Nat.le_of_ble_eq_true rfl) ⟨Nat.le_of_ble_eq_true rfl, Nat.le_of_ble_eq_true rfl⟩ (dq dt_X8_write 10 rfl) (fun H locs hw => ?_)
    refine lv_if_ne (tgt := 27) hx hb (dq dt_X8_write 11 rfl) (by decide) (fun c6 => ?_) (fun c6 => ?_)
    · replace hF := if_f c6 hF
      refine lv_aload_n hx hb (dq dt_X8_write 14 rfl) rfl (lv_at hl 0 rfl) ?_
      refine kGet (ci := 8) C in_X8 hw 0 rfl rfl 0 (by decide) (C.2.2.2.2.2.2.1 _ q2_22) rfl rfl (dq dt_X8_write 15 rfl) ?_
      refine lv_lload_n hx hb (dq dt_X8_write 16 rfl) rfl (lv_at hl 1 rfl) ?_
      refine lv_iload_n hx hb (dq dt_X8_write 17 rfl) rfl (lv_at hl 2 rfl) ?_
      obtain ⟨g7, g8, hr9, hF⟩ := zc2_ hF
      refine kCallV (ws2 := [(a_d, .inr (8, [.ref a_x, .ref a_t, .ref a_g, .ref a_r, .ref a_n, .ref a_k, .ref a_j, .int d_keptBits, .ref a_f, .ref a_e, .ref a_z, .ref a_c])), (a_x, .inr (6, [.ref a_x_signs, .int g7])), (a_x_signs, .inl (cB, 200, .inl g8))]) C hw (A_X6_add l D cB cI cJ cZ ad a_x a_x_signs x_length x_signs p1 p2 g7 g8 hr9) (cwV 2 C.2.2.2.2.2.2.1 (w0_V0 q2_73 q2_70 q2_71 q2_72 q1_2) rfl rfl rfl kd_X6_add ⟨Nat.le_of_ble_eq_true rfl, Nat.le_of_ble_eq_true rfl⟩) [1, 2] rfl rfl rfl rfl 1 6 rfl rfl hl.1 rfl rfl rfl (Nat.le_of_ble_eq_true rfl) ⟨Nat.le_of_ble_eq_true rfl, Nat.le_of_ble_eq_true rfl⟩ (dq dt_X8_write 18 rfl) (fun H locs hw => ?_)
      refine lv_aload_n hx hb (dq dt_X8_write 19 rfl) rfl (lv_at hl 0 rfl) ?_
      refine kGet (ci := 8) C in_X8 hw 0 rfl rfl 0 (by decide) (C.2.2.2.2.2.2.1 _ q2_22) rfl rfl (dq dt_X8_write 20 rfl) ?_
      refine kGet (ci := 6) C in_X6 hw 1 rfl rfl 1 (by decide) (C.2.2.2.2.2.2.1 _ q1_35) rfl rfl (dq dt_X8_write 21 rfl) ?_
      cases hF
      exact kRetI hQ C hw (dq dt_X8_write 22 rfl)
    · replace hF := if_t c6 hF
      refine lv_bipush (v := (-5 : Int32)) hx hb (dq dt_X8_write 12 rfl) (by decide) ?_
      cases hF
      exact kRetI hQ C hw (dq dt_X8_write 13 rfl)
  · replace hF := if_t c3 hF
    refine lv_bipush (v := (-3 : Int32)) hx hb (dq dt_X8_write 5 rfl) (by decide) ?_
    cases hF
    exact kRetI hQ C hw (dq dt_X8_write 6 rfl)
def F_X8_erase (x_length : Int32) : Option (Int32 × Int32) :=
  some (x_length, (0 : Int32))
abbrev rm_X8_erase : Room := { frames := 0, cells := 0, slots := 0, locals := 0 }
theorem kd_X8_erase : yX8_erase.cls = RX8 ∧ yX8_erase.cls ≠ "java/lang/invoke/MethodHandle" ∧ yX8_erase.cls ≠ "java/lang/invoke/VarHandle" ∧ (parseMethodDescriptor yX8_erase.desc).map (fun d => d.parameters.length) = some 0 := by decide +kernel
set_option maxRecDepth 100000 in
set_option maxHeartbeats 4000000 in
theorem A_X8_erase (l : Launch) (D : va_G) (cB cI cJ cZ : ClassId) (ad : (Nat → Nat) × (Nat → Nat)) (a_d a_x a_t a_g a_r a_n a_k a_j a_f a_e a_z a_c a_x_signs : Nat) (d_keptBits : Int32) (x_length : Int32) (r : Int32) (x_length' : Int32) (hF : F_X8_erase x_length = some (r, x_length')) : kM l yX8_erase (Cond.code yX8_erase cX8_erase 2 (some .int) :: W0) rm_X8_erase D (kT cB cI cJ cZ) ad [.ref a_d] [(a_d, .inr (8, [.ref a_x, .ref a_t, .ref a_g, .ref a_r, .ref a_n, .ref a_k, .ref a_j, .int d_keptBits, .ref a_f, .ref a_e, .ref a_z, .ref a_c])), (a_x, .inr (6, [.ref a_x_signs, .int x_length]))] (some (.int r)) [(a_d, .inr (8, [.ref a_x, .ref a_t, .ref a_g, .ref a_r, .ref a_n, .ref a_k, .ref a_j, .int d_keptBits, .ref a_f, .ref a_e, .ref a_z, .ref a_c])), (a_x, .inr (6, [.ref a_x_signs, .int (x_length')]))] := by
  unfold F_X8_erase at hF
  refine kStart (lv := [(0, .ref a_d)]) (own := "DikeWatch") (plainFor_of_name (by decide)) rfl (Nat.le_of_ble_eq_true rfl) rfl ?_
  intro p e s m args below meth c A Q ls hQ C hx hb hw hl
  refine lv_aload_n hx hb (dq dt_X8_erase 0 rfl) rfl (lv_at hl 0 rfl) ?_
  refine kGet (ci := 8) C in_X8 hw 0 rfl rfl 0 (by decide) (C.2.2.2.2.2.2.1 _ q2_22) rfl rfl (dq dt_X8_erase 1 rfl) ?_
  refine kGet (ci := 6) C in_X6 hw 1 rfl rfl 1 (by decide) (C.2.2.2.2.2.2.1 _ q1_35) rfl rfl (dq dt_X8_erase 2 rfl) ?_
  refine lv_istore_n (lv' := [(1, .int x_length), (0, .ref a_d)]) hx hb (dq dt_X8_erase 3 rfl) rfl hl (by decide) rfl (fun ls hl => ?_)
  refine lv_aload_n hx hb (dq dt_X8_erase 4 rfl) rfl (lv_at hl 1 rfl) ?_
  refine kGet (ci := 8) C in_X8 hw 0 rfl rfl 0 (by decide) (C.2.2.2.2.2.2.1 _ q2_22) rfl rfl (dq dt_X8_erase 5 rfl) ?_
  refine lv_iconst (v := (0 : Int32)) hx hb (dq dt_X8_erase 6 rfl) (by decide) ?_
  refine kPut (ci := 6) (ws' := [(a_d, .inr (8, [.ref a_x, .ref a_t, .ref a_g, .ref a_r, .ref a_n, .ref a_k, .ref a_j, .int d_keptBits, .ref a_f, .ref a_e, .ref a_z, .ref a_c])), (a_x, .inr (6, [.ref a_x_signs, .int (0 : Int32)]))]) C in_X6 tyX6 tyX6_ok nmX6 hw 1 rfl rfl 1 (by decide) (C.2.2.2.2.2.2.1 _ q1_35) rfl rfl rfl rfl (Nat.le_of_ble_eq_true rfl) rfl (dq dt_X8_erase 7 rfl) (fun H locs hw => ?_)
  refine lv_iload_n hx hb (dq dt_X8_erase 8 rfl) rfl (lv_at hl 0 rfl) ?_
  cases hF
  exact kRetI hQ C hw (dq dt_X8_erase 9 rfl)
def F_X7_copyFrom (t_yards : Int32) (t_seeps : Int32) (t_children : Int32) (t_tides : Nat → Int32) (t_seepYard : Nat → Int32) (t_seepSize : Nat → Int32) (t_growth : Nat → Int32) (t_level : Nat → Int32) (t_kind : Nat → Int32) (t_childYard : Nat → Int32) (t_pace : Nat → Int32) (t_ear : Nat → Int32) (o_yards : Int32) (o_seeps : Int32) (o_children : Int32) (o_tides : Nat → Int32) (o_seepYard : Nat → Int32) (o_seepSize : Nat → Int32) (o_growth : Nat → Int32) (o_level : Nat → Int32) (o_kind : Nat → Int32) (o_childYard : Nat → Int32) (o_pace : Nat → Int32) (o_ear : Nat → Int32) : Option (Int32 × Int32 × Int32 × (Nat → Int32) × (Nat → Int32) × (Nat → Int32) × (Nat → Int32) × (Nat → Int32) × (Nat → Int32) × (Nat → Int32) × (Nat → Int32) × (Nat → Int32)) :=
  bd (va_cpy o_tides t_tides 0 0 12) (fun g1 => bd (va_cpy o_seepYard t_seepYard 0 0 6) (fun g2 => bd (va_cpy o_seepSize t_seepSize 0 0 6) (fun g3 => bd (va_cpy o_growth t_growth 0 0 6) (fun g4 => bd (va_cpy o_level t_level 0 0 6) (fun g5 => bd (va_cpy o_kind t_kind 0 0 5) (fun g6 => bd (va_cpy o_childYard t_childYard 0 0 5) (fun g7 => bd (va_cpy o_pace t_pace 0 0 5) (fun g8 => bd (va_cpy o_ear t_ear 0 0 5) (fun g9 => some (o_yards, o_seeps, o_children, g1, g2, g3, g4, g5, g6, g7, g8, g9))))))))))
abbrev rm_X7_copyFrom : Room := { frames := 1, cells := 0, slots := 0, locals := 40 }
theorem kd_X7_copyFrom : yX7_copyFrom.cls = RX7 ∧ yX7_copyFrom.cls ≠ "java/lang/invoke/MethodHandle" ∧ yX7_copyFrom.cls ≠ "java/lang/invoke/VarHandle" ∧ (parseMethodDescriptor yX7_copyFrom.desc).map (fun d => d.parameters.length) = some 1 := by decide +kernel
set_option maxRecDepth 100000 in
set_option maxHeartbeats 4000000 in
theorem A_X7_copyFrom (l : Launch) (D : va_G) (cB cI cJ cZ : ClassId) (ad : (Nat → Nat) × (Nat → Nat)) (a_t a_t_tides a_t_seepYard a_t_seepSize a_t_growth a_t_level a_t_kind a_t_childYard a_t_pace a_t_ear a_o a_o_tides a_o_seepYard a_o_seepSize a_o_growth a_o_level a_o_kind a_o_childYard a_o_pace a_o_ear : Nat) (t_yards : Int32) (t_seeps : Int32) (t_children : Int32) (t_tides : Nat → Int32) (t_seepYard : Nat → Int32) (t_seepSize : Nat → Int32) (t_growth : Nat → Int32) (t_level : Nat → Int32) (t_kind : Nat → Int32) (t_childYard : Nat → Int32) (t_pace : Nat → Int32) (t_ear : Nat → Int32) (o_yards : Int32) (o_seeps : Int32) (o_children : Int32) (o_tides : Nat → Int32) (o_seepYard : Nat → Int32) (o_seepSize : Nat → Int32) (o_growth : Nat → Int32) (o_level : Nat → Int32) (o_kind : Nat → Int32) (o_childYard : Nat → Int32) (o_pace : Nat → Int32) (o_ear : Nat → Int32) (t_yards' : Int32) (t_seeps' : Int32) (t_children' : Int32) (t_tides' : Nat → Int32) (t_seepYard' : Nat → Int32) (t_seepSize' : Nat → Int32) (t_growth' : Nat → Int32) (t_level' : Nat → Int32) (t_kind' : Nat → Int32) (t_childYard' : Nat → Int32) (t_pace' : Nat → Int32) (t_ear' : Nat → Int32) (hF : F_X7_copyFrom t_yards t_seeps t_children t_tides t_seepYard t_seepSize t_growth t_level t_kind t_childYard t_pace t_ear o_yards o_seeps o_children o_tides o_seepYard o_seepSize o_growth o_level o_kind o_childYard o_pace o_ear = some (t_yards', t_seeps', t_children', t_tides', t_seepYard', t_seepSize', t_growth', t_level', t_kind', t_childYard', t_pace', t_ear')) : kM l yX7_copyFrom (Cond.code yX7_copyFrom cX7_copyFrom 2 (none) :: W0) rm_X7_copyFrom D (kT cB cI cJ cZ) ad [.ref a_t, .ref a_o] [(a_t, .inr (7, [.int t_yards, .ref a_t_tides, .int t_seeps, .ref a_t_seepYard, .ref a_t_seepSize, .ref a_t_growth, .ref a_t_level, .int t_children, .ref a_t_kind, .ref a_t_childYard, .ref a_t_pace, .ref a_t_ear])), (a_t_tides, .inl (cI, 12, .inl t_tides)), (a_t_seepYard, .inl (cI, 6, .inl t_seepYard)), (a_t_seepSize, .inl (cI, 6, .inl t_seepSize)), (a_t_growth, .inl (cI, 6, .inl t_growth)), (a_t_level, .inl (cI, 6, .inl t_level)), (a_t_kind, .inl (cI, 5, .inl t_kind)), (a_t_childYard, .inl (cI, 5, .inl t_childYard)), (a_t_pace, .inl (cI, 5, .inl t_pace)), (a_t_ear, .inl (cI, 5, .inl t_ear)), (a_o, .inr (7, [.int o_yards, .ref a_o_tides, .int o_seeps, .ref a_o_seepYard, .ref a_o_seepSize, .ref a_o_growth, .ref a_o_level, .int o_children, .ref a_o_kind, .ref a_o_childYard, .ref a_o_pace, .ref a_o_ear])), (a_o_tides, .inl (cI, 12, .inl o_tides)), (a_o_seepYard, .inl (cI, 6, .inl o_seepYard)), (a_o_seepSize, .inl (cI, 6, .inl o_seepSize)), (a_o_growth, .inl (cI, 6, .inl o_growth)), (a_o_level, .inl (cI, 6, .inl o_level)), (a_o_kind, .inl (cI, 5, .inl o_kind)), (a_o_childYard, .inl (cI, 5, .inl o_childYard)), (a_o_pace, .inl (cI, 5, .inl o_pace)), (a_o_ear, .inl (cI, 5, .inl o_ear))] none [(a_t, .inr (7, [.int (t_yards'), .ref a_t_tides, .int (t_seeps'), .ref a_t_seepYard, .ref a_t_seepSize, .ref a_t_growth, .ref a_t_level, .int (t_children'), .ref a_t_kind, .ref a_t_childYard, .ref a_t_pace, .ref a_t_ear])), (a_t_tides, .inl (cI, 12, .inl (t_tides'))), (a_t_seepYard, .inl (cI, 6, .inl (t_seepYard'))), (a_t_seepSize, .inl (cI, 6, .inl (t_seepSize'))), (a_t_growth, .inl (cI, 6, .inl (t_growth'))), (a_t_level, .inl (cI, 6, .inl (t_level'))), (a_t_kind, .inl (cI, 5, .inl (t_kind'))), (a_t_childYard, .inl (cI, 5, .inl (t_childYard'))), (a_t_pace, .inl (cI, 5, .inl (t_pace'))), (a_t_ear, .inl (cI, 5, .inl (t_ear'))), (a_o, .inr (7, [.int o_yards, .ref a_o_tides, .int o_seeps, .ref a_o_seepYard, .ref a_o_seepSize, .ref a_o_growth, .ref a_o_level, .int o_children, .ref a_o_kind, .ref a_o_childYard, .ref a_o_pace, .ref a_o_ear])), (a_o_tides, .inl (cI, 12, .inl o_tides)), (a_o_seepYard, .inl (cI, 6, .inl o_seepYard)), (a_o_seepSize, .inl (cI, 6, .inl o_seepSize)), (a_o_growth, .inl (cI, 6, .inl o_growth)), (a_o_level, .inl (cI, 6, .inl o_level)), (a_o_kind, .inl (cI, 5, .inl o_kind)), (a_o_childYard, .inl (cI, 5, .inl o_childYard)), (a_o_pace, .inl (cI, 5, .inl o_pace)), (a_o_ear, .inl (cI, 5, .inl o_ear))] := by
  unfold F_X7_copyFrom at hF
  refine kStart (lv := [(0, .ref a_t), (1, .ref a_o)]) (own := "DikeWatch$Told") (plainFor_of_name (by decide)) rfl (Nat.le_of_ble_eq_true rfl) rfl ?_
  intro p e s m args below meth c A Q ls hQ C hx hb hw hl
  refine lv_aload_n hx hb (dq dt_X7_copyFrom 0 rfl) rfl (lv_at hl 0 rfl) ?_
  refine lv_aload_n hx hb (dq dt_X7_copyFrom 1 rfl) rfl (lv_at hl 1 rfl) ?_
  refine kGet (ci := 7) C in_X7 hw 10 rfl rfl 0 (by decide) (C.2.2.2.2.2.2.1 _ q1_49) rfl rfl (dq dt_X7_copyFrom 2 rfl) ?_
  refine kPut (ci := 7) (ws' := [(a_t, .inr (7, [.int o_yards, .ref a_t_tides, .int t_seeps, .ref a_t_seepYard, .ref a_t_seepSize, .ref a_t_growth, .ref a_t_level, .int t_children, .ref a_t_kind, .ref a_t_childYard, .ref a_t_pace, .ref a_t_ear])), (a_t_tides, .inl (cI, 12, .inl t_tides)), (a_t_seepYard, .inl (cI, 6, .inl t_seepYard)), (a_t_seepSize, .inl (cI, 6, .inl t_seepSize)), (a_t_growth, .inl (cI, 6, .inl t_growth)), (a_t_level, .inl (cI, 6, .inl t_level)), (a_t_kind, .inl (cI, 5, .inl t_kind)), (a_t_childYard, .inl (cI, 5, .inl t_childYard)), (a_t_pace, .inl (cI, 5, .inl t_pace)), (a_t_ear, .inl (cI, 5, .inl t_ear)), (a_o, .inr (7, [.int o_yards, .ref a_o_tides, .int o_seeps, .ref a_o_seepYard, .ref a_o_seepSize, .ref a_o_growth, .ref a_o_level, .int o_children, .ref a_o_kind, .ref a_o_childYard, .ref a_o_pace, .ref a_o_ear])), (a_o_tides, .inl (cI, 12, .inl o_tides)), (a_o_seepYard, .inl (cI, 6, .inl o_seepYard)), (a_o_seepSize, .inl (cI, 6, .inl o_seepSize)), (a_o_growth, .inl (cI, 6, .inl o_growth)), (a_o_level, .inl (cI, 6, .inl o_level)), (a_o_kind, .inl (cI, 5, .inl o_kind)), (a_o_childYard, .inl (cI, 5, .inl o_childYard)), (a_o_pace, .inl (cI, 5, .inl o_pace)), (a_o_ear, .inl (cI, 5, .inl o_ear))]) C in_X7 tyX7 tyX7_ok nmX7 hw 0 rfl rfl 0 (by decide) (C.2.2.2.2.2.2.1 _ q1_49) rfl rfl rfl rfl (Nat.le_of_ble_eq_true rfl) rfl (dq dt_X7_copyFrom 3 rfl) (fun H locs hw => ?_)
  refine lv_aload_n hx hb (dq dt_X7_copyFrom 4 rfl) rfl (lv_at hl 1 rfl) ?_
  refine kGet (ci := 7) C in_X7 hw 10 rfl rfl 1 (by decide) (C.2.2.2.2.2.2.1 _ q1_54) rfl rfl (dq dt_X7_copyFrom 5 rfl) ?_
  refine lv_iconst (v := (0 : Int32)) hx hb (dq dt_X7_copyFrom 6 rfl) (by decide) ?_
  refine lv_aload_n hx hb (dq dt_X7_copyFrom 7 rfl) rfl (lv_at hl 0 rfl) ?_
  refine kGet (ci := 7) C in_X7 hw 0 rfl rfl 1 (by decide) (C.2.2.2.2.2.2.1 _ q1_54) rfl rfl (dq dt_X7_copyFrom 8 rfl) ?_
  refine lv_iconst (v := (0 : Int32)) hx hb (dq dt_X7_copyFrom 9 rfl) (by decide) ?_
  refine lv_bipush (v := (12 : Int32)) hx hb (dq dt_X7_copyFrom 10 rfl) (by decide) ?_
  obtain ⟨g1, eg1, hF⟩ := bd_ hF
  refine kCopyI (ws' := [(a_t, .inr (7, [.int o_yards, .ref a_t_tides, .int t_seeps, .ref a_t_seepYard, .ref a_t_seepSize, .ref a_t_growth, .ref a_t_level, .int t_children, .ref a_t_kind, .ref a_t_childYard, .ref a_t_pace, .ref a_t_ear])), (a_t_tides, .inl (cI, 12, .inl g1)), (a_t_seepYard, .inl (cI, 6, .inl t_seepYard)), (a_t_seepSize, .inl (cI, 6, .inl t_seepSize)), (a_t_growth, .inl (cI, 6, .inl t_growth)), (a_t_level, .inl (cI, 6, .inl t_level)), (a_t_kind, .inl (cI, 5, .inl t_kind)), (a_t_childYard, .inl (cI, 5, .inl t_childYard)), (a_t_pace, .inl (cI, 5, .inl t_pace)), (a_t_ear, .inl (cI, 5, .inl t_ear)), (a_o, .inr (7, [.int o_yards, .ref a_o_tides, .int o_seeps, .ref a_o_seepYard, .ref a_o_seepSize, .ref a_o_growth, .ref a_o_level, .int o_children, .ref a_o_kind, .ref a_o_childYard, .ref a_o_pace, .ref a_o_ear])), (a_o_tides, .inl (cI, 12, .inl o_tides)), (a_o_seepYard, .inl (cI, 6, .inl o_seepYard)), (a_o_seepSize, .inl (cI, 6, .inl o_seepSize)), (a_o_growth, .inl (cI, 6, .inl o_growth)), (a_o_level, .inl (cI, 6, .inl o_level)), (a_o_kind, .inl (cI, 5, .inl o_kind)), (a_o_childYard, .inl (cI, 5, .inl o_childYard)), (a_o_pace, .inl (cI, 5, .inl o_pace)), (a_o_ear, .inl (cI, 5, .inl o_ear))]) C hl.1 (C.2.2.2.2.2.2.1 _ q2_86) (C.2.2.2.2.2.2.1 _ q2_88) (C.2.2.2.2.2.2.1 _ q2_87) (C.2.2.2.2.2.2.1 _ q1_11) hw 11 1 1 rfl rfl rfl (by decide) (by decide) (by decide) eg1 rfl (Nat.le_of_ble_eq_true rfl) (Nat.le_of_ble_eq_true rfl) (dq dt_X7_copyFrom 11 rfl) (fun H locs hw => ?_)
  refine lv_aload_n hx hb (dq dt_X7_copyFrom 12 rfl) rfl (lv_at hl 0 rfl) ?_
  refine lv_aload_n hx hb (dq dt_X7_copyFrom 13 rfl) rfl (lv_at hl 1 rfl) ?_
  refine kGet (ci := 7) C in_X7 hw 10 rfl rfl 2 (by decide) (C.2.2.2.2.2.2.1 _ q1_56) rfl rfl (dq dt_X7_copyFrom 14 rfl) ?_
  refine kPut (ci := 7) (ws' := [(a_t, .inr (7, [.int o_yards, .ref a_t_tides, .int o_seeps, .ref a_t_seepYard, .ref a_t_seepSize, .ref a_t_growth, .ref a_t_level, .int t_children, .ref a_t_kind, .ref a_t_childYard, .ref a_t_pace, .ref a_t_ear])), (a_t_tides, .inl (cI, 12, .inl g1)), (a_t_seepYard, .inl (cI, 6, .inl t_seepYard)), (a_t_seepSize, .inl (cI, 6, .inl t_seepSize)), (a_t_growth, .inl (cI, 6, .inl t_growth)), (a_t_level, .inl (cI, 6, .inl t_level)), (a_t_kind, .inl (cI, 5, .inl t_kind)), (a_t_childYard, .inl (cI, 5, .inl t_childYard)), (a_t_pace, .inl (cI, 5, .inl t_pace)), (a_t_ear, .inl (cI, 5, .inl t_ear)), (a_o, .inr (7, [.int o_yards, .ref a_o_tides, .int o_seeps, .ref a_o_seepYard, .ref a_o_seepSize, .ref a_o_growth, .ref a_o_level, .int o_children, .ref a_o_kind, .ref a_o_childYard, .ref a_o_pace, .ref a_o_ear])), (a_o_tides, .inl (cI, 12, .inl o_tides)), (a_o_seepYard, .inl (cI, 6, .inl o_seepYard)), (a_o_seepSize, .inl (cI, 6, .inl o_seepSize)), (a_o_growth, .inl (cI, 6, .inl o_growth)), (a_o_level, .inl (cI, 6, .inl o_level)), (a_o_kind, .inl (cI, 5, .inl o_kind)), (a_o_childYard, .inl (cI, 5, .inl o_childYard)), (a_o_pace, .inl (cI, 5, .inl o_pace)), (a_o_ear, .inl (cI, 5, .inl o_ear))]) C in_X7 tyX7 tyX7_ok nmX7 hw 0 rfl rfl 2 (by decide) (C.2.2.2.2.2.2.1 _ q1_56) rfl rfl rfl rfl (Nat.le_of_ble_eq_true rfl) rfl (dq dt_X7_copyFrom 15 rfl) (fun H locs hw => ?_)
  refine lv_aload_n hx hb (dq dt_X7_copyFrom 16 rfl) rfl (lv_at hl 1 rfl) ?_
  refine kGet (ci := 7) C in_X7 hw 10 rfl rfl 3 (by decide) (C.2.2.2.2.2.2.1 _ q1_62) rfl rfl (dq dt_X7_copyFrom 17 rfl) ?_
  refine lv_iconst (v := (0 : Int32)) hx hb (dq dt_X7_copyFrom 18 rfl) (by decide) ?_
  refine lv_aload_n hx hb (dq dt_X7_copyFrom 19 rfl) rfl (lv_at hl 0 rfl) ?_
  refine kGet (ci := 7) C in_X7 hw 0 rfl rfl 3 (by decide) (C.2.2.2.2.2.2.1 _ q1_62) rfl rfl (dq dt_X7_copyFrom 20 rfl) ?_
  refine lv_iconst (v := (0 : Int32)) hx hb (dq dt_X7_copyFrom 21 rfl) (by decide) ?_
  refine lv_bipush (v := (6 : Int32)) hx hb (dq dt_X7_copyFrom 22 rfl) (by decide) ?_
  obtain ⟨g2, eg2, hF⟩ := bd_ hF
  refine kCopyI (ws' := [(a_t, .inr (7, [.int o_yards, .ref a_t_tides, .int o_seeps, .ref a_t_seepYard, .ref a_t_seepSize, .ref a_t_growth, .ref a_t_level, .int t_children, .ref a_t_kind, .ref a_t_childYard, .ref a_t_pace, .ref a_t_ear])), (a_t_tides, .inl (cI, 12, .inl g1)), (a_t_seepYard, .inl (cI, 6, .inl g2)), (a_t_seepSize, .inl (cI, 6, .inl t_seepSize)), (a_t_growth, .inl (cI, 6, .inl t_growth)), (a_t_level, .inl (cI, 6, .inl t_level)), (a_t_kind, .inl (cI, 5, .inl t_kind)), (a_t_childYard, .inl (cI, 5, .inl t_childYard)), (a_t_pace, .inl (cI, 5, .inl t_pace)), (a_t_ear, .inl (cI, 5, .inl t_ear)), (a_o, .inr (7, [.int o_yards, .ref a_o_tides, .int o_seeps, .ref a_o_seepYard, .ref a_o_seepSize, .ref a_o_growth, .ref a_o_level, .int o_children, .ref a_o_kind, .ref a_o_childYard, .ref a_o_pace, .ref a_o_ear])), (a_o_tides, .inl (cI, 12, .inl o_tides)), (a_o_seepYard, .inl (cI, 6, .inl o_seepYard)), (a_o_seepSize, .inl (cI, 6, .inl o_seepSize)), (a_o_growth, .inl (cI, 6, .inl o_growth)), (a_o_level, .inl (cI, 6, .inl o_level)), (a_o_kind, .inl (cI, 5, .inl o_kind)), (a_o_childYard, .inl (cI, 5, .inl o_childYard)), (a_o_pace, .inl (cI, 5, .inl o_pace)), (a_o_ear, .inl (cI, 5, .inl o_ear))]) C hl.1 (C.2.2.2.2.2.2.1 _ q2_86) (C.2.2.2.2.2.2.1 _ q2_88) (C.2.2.2.2.2.2.1 _ q2_87) (C.2.2.2.2.2.2.1 _ q1_11) hw 12 2 1 rfl rfl rfl (by decide) (by decide) (by decide) eg2 rfl (Nat.le_of_ble_eq_true rfl) (Nat.le_of_ble_eq_true rfl) (dq dt_X7_copyFrom 23 rfl) (fun H locs hw => ?_)
  refine lv_aload_n hx hb (dq dt_X7_copyFrom 24 rfl) rfl (lv_at hl 1 rfl) ?_
  refine kGet (ci := 7) C in_X7 hw 10 rfl rfl 4 (by decide) (C.2.2.2.2.2.2.1 _ q1_66) rfl rfl (dq dt_X7_copyFrom 25 rfl) ?_
  refine lv_iconst (v := (0 : Int32)) hx hb (dq dt_X7_copyFrom 26 rfl) (by decide) ?_
  refine lv_aload_n hx hb (dq dt_X7_copyFrom 27 rfl) rfl (lv_at hl 0 rfl) ?_
  refine kGet (ci := 7) C in_X7 hw 0 rfl rfl 4 (by decide) (C.2.2.2.2.2.2.1 _ q1_66) rfl rfl (dq dt_X7_copyFrom 28 rfl) ?_
  refine lv_iconst (v := (0 : Int32)) hx hb (dq dt_X7_copyFrom 29 rfl) (by decide) ?_
  refine lv_bipush (v := (6 : Int32)) hx hb (dq dt_X7_copyFrom 30 rfl) (by decide) ?_
  obtain ⟨g3, eg3, hF⟩ := bd_ hF
  refine kCopyI (ws' := [(a_t, .inr (7, [.int o_yards, .ref a_t_tides, .int o_seeps, .ref a_t_seepYard, .ref a_t_seepSize, .ref a_t_growth, .ref a_t_level, .int t_children, .ref a_t_kind, .ref a_t_childYard, .ref a_t_pace, .ref a_t_ear])), (a_t_tides, .inl (cI, 12, .inl g1)), (a_t_seepYard, .inl (cI, 6, .inl g2)), (a_t_seepSize, .inl (cI, 6, .inl g3)), (a_t_growth, .inl (cI, 6, .inl t_growth)), (a_t_level, .inl (cI, 6, .inl t_level)), (a_t_kind, .inl (cI, 5, .inl t_kind)), (a_t_childYard, .inl (cI, 5, .inl t_childYard)), (a_t_pace, .inl (cI, 5, .inl t_pace)), (a_t_ear, .inl (cI, 5, .inl t_ear)), (a_o, .inr (7, [.int o_yards, .ref a_o_tides, .int o_seeps, .ref a_o_seepYard, .ref a_o_seepSize, .ref a_o_growth, .ref a_o_level, .int o_children, .ref a_o_kind, .ref a_o_childYard, .ref a_o_pace, .ref a_o_ear])), (a_o_tides, .inl (cI, 12, .inl o_tides)), (a_o_seepYard, .inl (cI, 6, .inl o_seepYard)), (a_o_seepSize, .inl (cI, 6, .inl o_seepSize)), (a_o_growth, .inl (cI, 6, .inl o_growth)), (a_o_level, .inl (cI, 6, .inl o_level)), (a_o_kind, .inl (cI, 5, .inl o_kind)), (a_o_childYard, .inl (cI, 5, .inl o_childYard)), (a_o_pace, .inl (cI, 5, .inl o_pace)), (a_o_ear, .inl (cI, 5, .inl o_ear))]) C hl.1 (C.2.2.2.2.2.2.1 _ q2_86) (C.2.2.2.2.2.2.1 _ q2_88) (C.2.2.2.2.2.2.1 _ q2_87) (C.2.2.2.2.2.2.1 _ q1_11) hw 13 3 1 rfl rfl rfl (by decide) (by decide) (by decide) eg3 rfl (Nat.le_of_ble_eq_true rfl) (Nat.le_of_ble_eq_true rfl) (dq dt_X7_copyFrom 31 rfl) (fun H locs hw => ?_)
  refine lv_aload_n hx hb (dq dt_X7_copyFrom 32 rfl) rfl (lv_at hl 1 rfl) ?_
  refine kGet (ci := 7) C in_X7 hw 10 rfl rfl 5 (by decide) (C.2.2.2.2.2.2.1 _ q1_68) rfl rfl (dq dt_X7_copyFrom 33 rfl) ?_
  refine lv_iconst (v := (0 : Int32)) hx hb (dq dt_X7_copyFrom 34 rfl) (by decide) ?_
  refine lv_aload_n hx hb (dq dt_X7_copyFrom 35 rfl) rfl (lv_at hl 0 rfl) ?_
  refine kGet (ci := 7) C in_X7 hw 0 rfl rfl 5 (by decide) (C.2.2.2.2.2.2.1 _ q1_68) rfl rfl (dq dt_X7_copyFrom 36 rfl) ?_
  refine lv_iconst (v := (0 : Int32)) hx hb (dq dt_X7_copyFrom 37 rfl) (by decide) ?_
  refine lv_bipush (v := (6 : Int32)) hx hb (dq dt_X7_copyFrom 38 rfl) (by decide) ?_
  obtain ⟨g4, eg4, hF⟩ := bd_ hF
  refine kCopyI (ws' := [(a_t, .inr (7, [.int o_yards, .ref a_t_tides, .int o_seeps, .ref a_t_seepYard, .ref a_t_seepSize, .ref a_t_growth, .ref a_t_level, .int t_children, .ref a_t_kind, .ref a_t_childYard, .ref a_t_pace, .ref a_t_ear])), (a_t_tides, .inl (cI, 12, .inl g1)), (a_t_seepYard, .inl (cI, 6, .inl g2)), (a_t_seepSize, .inl (cI, 6, .inl g3)), (a_t_growth, .inl (cI, 6, .inl g4)), (a_t_level, .inl (cI, 6, .inl t_level)), (a_t_kind, .inl (cI, 5, .inl t_kind)), (a_t_childYard, .inl (cI, 5, .inl t_childYard)), (a_t_pace, .inl (cI, 5, .inl t_pace)), (a_t_ear, .inl (cI, 5, .inl t_ear)), (a_o, .inr (7, [.int o_yards, .ref a_o_tides, .int o_seeps, .ref a_o_seepYard, .ref a_o_seepSize, .ref a_o_growth, .ref a_o_level, .int o_children, .ref a_o_kind, .ref a_o_childYard, .ref a_o_pace, .ref a_o_ear])), (a_o_tides, .inl (cI, 12, .inl o_tides)), (a_o_seepYard, .inl (cI, 6, .inl o_seepYard)), (a_o_seepSize, .inl (cI, 6, .inl o_seepSize)), (a_o_growth, .inl (cI, 6, .inl o_growth)), (a_o_level, .inl (cI, 6, .inl o_level)), (a_o_kind, .inl (cI, 5, .inl o_kind)), (a_o_childYard, .inl (cI, 5, .inl o_childYard)), (a_o_pace, .inl (cI, 5, .inl o_pace)), (a_o_ear, .inl (cI, 5, .inl o_ear))]) C hl.1 (C.2.2.2.2.2.2.1 _ q2_86) (C.2.2.2.2.2.2.1 _ q2_88) (C.2.2.2.2.2.2.1 _ q2_87) (C.2.2.2.2.2.2.1 _ q1_11) hw 14 4 1 rfl rfl rfl (by decide) (by decide) (by decide) eg4 rfl (Nat.le_of_ble_eq_true rfl) (Nat.le_of_ble_eq_true rfl) (dq dt_X7_copyFrom 39 rfl) (fun H locs hw => ?_)
  refine lv_aload_n hx hb (dq dt_X7_copyFrom 40 rfl) rfl (lv_at hl 1 rfl) ?_
  refine kGet (ci := 7) C in_X7 hw 10 rfl rfl 6 (by decide) (C.2.2.2.2.2.2.1 _ q1_70) rfl rfl (dq dt_X7_copyFrom 41 rfl) ?_
  refine lv_iconst (v := (0 : Int32)) hx hb (dq dt_X7_copyFrom 42 rfl) (by decide) ?_
  refine lv_aload_n hx hb (dq dt_X7_copyFrom 43 rfl) rfl (lv_at hl 0 rfl) ?_
  refine kGet (ci := 7) C in_X7 hw 0 rfl rfl 6 (by decide) (C.2.2.2.2.2.2.1 _ q1_70) rfl rfl (dq dt_X7_copyFrom 44 rfl) ?_
  refine lv_iconst (v := (0 : Int32)) hx hb (dq dt_X7_copyFrom 45 rfl) (by decide) ?_
  refine lv_bipush (v := (6 : Int32)) hx hb (dq dt_X7_copyFrom 46 rfl) (by decide) ?_
  obtain ⟨g5, eg5, hF⟩ := bd_ hF
  refine kCopyI (ws' := [(a_t, .inr (7, [.int o_yards, .ref a_t_tides, .int o_seeps, .ref a_t_seepYard, .ref a_t_seepSize, .ref a_t_growth, .ref a_t_level, .int t_children, .ref a_t_kind, .ref a_t_childYard, .ref a_t_pace, .ref a_t_ear])), (a_t_tides, .inl (cI, 12, .inl g1)), (a_t_seepYard, .inl (cI, 6, .inl g2)), (a_t_seepSize, .inl (cI, 6, .inl g3)), (a_t_growth, .inl (cI, 6, .inl g4)), (a_t_level, .inl (cI, 6, .inl g5)), (a_t_kind, .inl (cI, 5, .inl t_kind)), (a_t_childYard, .inl (cI, 5, .inl t_childYard)), (a_t_pace, .inl (cI, 5, .inl t_pace)), (a_t_ear, .inl (cI, 5, .inl t_ear)), (a_o, .inr (7, [.int o_yards, .ref a_o_tides, .int o_seeps, .ref a_o_seepYard, .ref a_o_seepSize, .ref a_o_growth, .ref a_o_level, .int o_children, .ref a_o_kind, .ref a_o_childYard, .ref a_o_pace, .ref a_o_ear])), (a_o_tides, .inl (cI, 12, .inl o_tides)), (a_o_seepYard, .inl (cI, 6, .inl o_seepYard)), (a_o_seepSize, .inl (cI, 6, .inl o_seepSize)), (a_o_growth, .inl (cI, 6, .inl o_growth)), (a_o_level, .inl (cI, 6, .inl o_level)), (a_o_kind, .inl (cI, 5, .inl o_kind)), (a_o_childYard, .inl (cI, 5, .inl o_childYard)), (a_o_pace, .inl (cI, 5, .inl o_pace)), (a_o_ear, .inl (cI, 5, .inl o_ear))]) C hl.1 (C.2.2.2.2.2.2.1 _ q2_86) (C.2.2.2.2.2.2.1 _ q2_88) (C.2.2.2.2.2.2.1 _ q2_87) (C.2.2.2.2.2.2.1 _ q1_11) hw 15 5 1 rfl rfl rfl (by decide) (by decide) (by decide) eg5 rfl (Nat.le_of_ble_eq_true rfl) (Nat.le_of_ble_eq_true rfl) (dq dt_X7_copyFrom 47 rfl) (fun H locs hw => ?_)
  refine lv_aload_n hx hb (dq dt_X7_copyFrom 48 rfl) rfl (lv_at hl 0 rfl) ?_
  refine lv_aload_n hx hb (dq dt_X7_copyFrom 49 rfl) rfl (lv_at hl 1 rfl) ?_
  refine kGet (ci := 7) C in_X7 hw 10 rfl rfl 7 (by decide) (C.2.2.2.2.2.2.1 _ q1_72) rfl rfl (dq dt_X7_copyFrom 50 rfl) ?_
  refine kPut (ci := 7) (ws' := [(a_t, .inr (7, [.int o_yards, .ref a_t_tides, .int o_seeps, .ref a_t_seepYard, .ref a_t_seepSize, .ref a_t_growth, .ref a_t_level, .int o_children, .ref a_t_kind, .ref a_t_childYard, .ref a_t_pace, .ref a_t_ear])), (a_t_tides, .inl (cI, 12, .inl g1)), (a_t_seepYard, .inl (cI, 6, .inl g2)), (a_t_seepSize, .inl (cI, 6, .inl g3)), (a_t_growth, .inl (cI, 6, .inl g4)), (a_t_level, .inl (cI, 6, .inl g5)), (a_t_kind, .inl (cI, 5, .inl t_kind)), (a_t_childYard, .inl (cI, 5, .inl t_childYard)), (a_t_pace, .inl (cI, 5, .inl t_pace)), (a_t_ear, .inl (cI, 5, .inl t_ear)), (a_o, .inr (7, [.int o_yards, .ref a_o_tides, .int o_seeps, .ref a_o_seepYard, .ref a_o_seepSize, .ref a_o_growth, .ref a_o_level, .int o_children, .ref a_o_kind, .ref a_o_childYard, .ref a_o_pace, .ref a_o_ear])), (a_o_tides, .inl (cI, 12, .inl o_tides)), (a_o_seepYard, .inl (cI, 6, .inl o_seepYard)), (a_o_seepSize, .inl (cI, 6, .inl o_seepSize)), (a_o_growth, .inl (cI, 6, .inl o_growth)), (a_o_level, .inl (cI, 6, .inl o_level)), (a_o_kind, .inl (cI, 5, .inl o_kind)), (a_o_childYard, .inl (cI, 5, .inl o_childYard)), (a_o_pace, .inl (cI, 5, .inl o_pace)), (a_o_ear, .inl (cI, 5, .inl o_ear))]) C in_X7 tyX7 tyX7_ok nmX7 hw 0 rfl rfl 7 (by decide) (C.2.2.2.2.2.2.1 _ q1_72) rfl rfl rfl rfl (Nat.le_of_ble_eq_true rfl) rfl (dq dt_X7_copyFrom 51 rfl) (fun H locs hw => ?_)
  refine lv_aload_n hx hb (dq dt_X7_copyFrom 52 rfl) rfl (lv_at hl 1 rfl) ?_
  refine kGet (ci := 7) C in_X7 hw 10 rfl rfl 8 (by decide) (C.2.2.2.2.2.2.1 _ q1_77) rfl rfl (dq dt_X7_copyFrom 53 rfl) ?_
  refine lv_iconst (v := (0 : Int32)) hx hb (dq dt_X7_copyFrom 54 rfl) (by decide) ?_
  refine lv_aload_n hx hb (dq dt_X7_copyFrom 55 rfl) rfl (lv_at hl 0 rfl) ?_
  refine kGet (ci := 7) C in_X7 hw 0 rfl rfl 8 (by decide) (C.2.2.2.2.2.2.1 _ q1_77) rfl rfl (dq dt_X7_copyFrom 56 rfl) ?_
  refine lv_iconst (v := (0 : Int32)) hx hb (dq dt_X7_copyFrom 57 rfl) (by decide) ?_
  refine lv_iconst (v := (5 : Int32)) hx hb (dq dt_X7_copyFrom 58 rfl) (by decide) ?_
  obtain ⟨g6, eg6, hF⟩ := bd_ hF
  refine kCopyI (ws' := [(a_t, .inr (7, [.int o_yards, .ref a_t_tides, .int o_seeps, .ref a_t_seepYard, .ref a_t_seepSize, .ref a_t_growth, .ref a_t_level, .int o_children, .ref a_t_kind, .ref a_t_childYard, .ref a_t_pace, .ref a_t_ear])), (a_t_tides, .inl (cI, 12, .inl g1)), (a_t_seepYard, .inl (cI, 6, .inl g2)), (a_t_seepSize, .inl (cI, 6, .inl g3)), (a_t_growth, .inl (cI, 6, .inl g4)), (a_t_level, .inl (cI, 6, .inl g5)), (a_t_kind, .inl (cI, 5, .inl g6)), (a_t_childYard, .inl (cI, 5, .inl t_childYard)), (a_t_pace, .inl (cI, 5, .inl t_pace)), (a_t_ear, .inl (cI, 5, .inl t_ear)), (a_o, .inr (7, [.int o_yards, .ref a_o_tides, .int o_seeps, .ref a_o_seepYard, .ref a_o_seepSize, .ref a_o_growth, .ref a_o_level, .int o_children, .ref a_o_kind, .ref a_o_childYard, .ref a_o_pace, .ref a_o_ear])), (a_o_tides, .inl (cI, 12, .inl o_tides)), (a_o_seepYard, .inl (cI, 6, .inl o_seepYard)), (a_o_seepSize, .inl (cI, 6, .inl o_seepSize)), (a_o_growth, .inl (cI, 6, .inl o_growth)), (a_o_level, .inl (cI, 6, .inl o_level)), (a_o_kind, .inl (cI, 5, .inl o_kind)), (a_o_childYard, .inl (cI, 5, .inl o_childYard)), (a_o_pace, .inl (cI, 5, .inl o_pace)), (a_o_ear, .inl (cI, 5, .inl o_ear))]) C hl.1 (C.2.2.2.2.2.2.1 _ q2_86) (C.2.2.2.2.2.2.1 _ q2_88) (C.2.2.2.2.2.2.1 _ q2_87) (C.2.2.2.2.2.2.1 _ q1_11) hw 16 6 1 rfl rfl rfl (by decide) (by decide) (by decide) eg6 rfl (Nat.le_of_ble_eq_true rfl) (Nat.le_of_ble_eq_true rfl) (dq dt_X7_copyFrom 59 rfl) (fun H locs hw => ?_)
  refine lv_aload_n hx hb (dq dt_X7_copyFrom 60 rfl) rfl (lv_at hl 1 rfl) ?_
  refine kGet (ci := 7) C in_X7 hw 10 rfl rfl 9 (by decide) (C.2.2.2.2.2.2.1 _ q1_80) rfl rfl (dq dt_X7_copyFrom 61 rfl) ?_
  refine lv_iconst (v := (0 : Int32)) hx hb (dq dt_X7_copyFrom 62 rfl) (by decide) ?_
  refine lv_aload_n hx hb (dq dt_X7_copyFrom 63 rfl) rfl (lv_at hl 0 rfl) ?_
  refine kGet (ci := 7) C in_X7 hw 0 rfl rfl 9 (by decide) (C.2.2.2.2.2.2.1 _ q1_80) rfl rfl (dq dt_X7_copyFrom 64 rfl) ?_
  refine lv_iconst (v := (0 : Int32)) hx hb (dq dt_X7_copyFrom 65 rfl) (by decide) ?_
  refine lv_iconst (v := (5 : Int32)) hx hb (dq dt_X7_copyFrom 66 rfl) (by decide) ?_
  obtain ⟨g7, eg7, hF⟩ := bd_ hF
  refine kCopyI (ws' := [(a_t, .inr (7, [.int o_yards, .ref a_t_tides, .int o_seeps, .ref a_t_seepYard, .ref a_t_seepSize, .ref a_t_growth, .ref a_t_level, .int o_children, .ref a_t_kind, .ref a_t_childYard, .ref a_t_pace, .ref a_t_ear])), (a_t_tides, .inl (cI, 12, .inl g1)), (a_t_seepYard, .inl (cI, 6, .inl g2)), (a_t_seepSize, .inl (cI, 6, .inl g3)), (a_t_growth, .inl (cI, 6, .inl g4)), (a_t_level, .inl (cI, 6, .inl g5)), (a_t_kind, .inl (cI, 5, .inl g6)), (a_t_childYard, .inl (cI, 5, .inl g7)), (a_t_pace, .inl (cI, 5, .inl t_pace)), (a_t_ear, .inl (cI, 5, .inl t_ear)), (a_o, .inr (7, [.int o_yards, .ref a_o_tides, .int o_seeps, .ref a_o_seepYard, .ref a_o_seepSize, .ref a_o_growth, .ref a_o_level, .int o_children, .ref a_o_kind, .ref a_o_childYard, .ref a_o_pace, .ref a_o_ear])), (a_o_tides, .inl (cI, 12, .inl o_tides)), (a_o_seepYard, .inl (cI, 6, .inl o_seepYard)), (a_o_seepSize, .inl (cI, 6, .inl o_seepSize)), (a_o_growth, .inl (cI, 6, .inl o_growth)), (a_o_level, .inl (cI, 6, .inl o_level)), (a_o_kind, .inl (cI, 5, .inl o_kind)), (a_o_childYard, .inl (cI, 5, .inl o_childYard)), (a_o_pace, .inl (cI, 5, .inl o_pace)), (a_o_ear, .inl (cI, 5, .inl o_ear))]) C hl.1 (C.2.2.2.2.2.2.1 _ q2_86) (C.2.2.2.2.2.2.1 _ q2_88) (C.2.2.2.2.2.2.1 _ q2_87) (C.2.2.2.2.2.2.1 _ q1_11) hw 17 7 1 rfl rfl rfl (by decide) (by decide) (by decide) eg7 rfl (Nat.le_of_ble_eq_true rfl) (Nat.le_of_ble_eq_true rfl) (dq dt_X7_copyFrom 67 rfl) (fun H locs hw => ?_)
  refine lv_aload_n hx hb (dq dt_X7_copyFrom 68 rfl) rfl (lv_at hl 1 rfl) ?_
  refine kGet (ci := 7) C in_X7 hw 10 rfl rfl 10 (by decide) (C.2.2.2.2.2.2.1 _ q1_82) rfl rfl (dq dt_X7_copyFrom 69 rfl) ?_
  refine lv_iconst (v := (0 : Int32)) hx hb (dq dt_X7_copyFrom 70 rfl) (by decide) ?_
  refine lv_aload_n hx hb (dq dt_X7_copyFrom 71 rfl) rfl (lv_at hl 0 rfl) ?_
  refine kGet (ci := 7) C in_X7 hw 0 rfl rfl 10 (by decide) (C.2.2.2.2.2.2.1 _ q1_82) rfl rfl (dq dt_X7_copyFrom 72 rfl) ?_
  refine lv_iconst (v := (0 : Int32)) hx hb (dq dt_X7_copyFrom 73 rfl) (by decide) ?_
  refine lv_iconst (v := (5 : Int32)) hx hb (dq dt_X7_copyFrom 74 rfl) (by decide) ?_
  obtain ⟨g8, eg8, hF⟩ := bd_ hF
  refine kCopyI (ws' := [(a_t, .inr (7, [.int o_yards, .ref a_t_tides, .int o_seeps, .ref a_t_seepYard, .ref a_t_seepSize, .ref a_t_growth, .ref a_t_level, .int o_children, .ref a_t_kind, .ref a_t_childYard, .ref a_t_pace, .ref a_t_ear])), (a_t_tides, .inl (cI, 12, .inl g1)), (a_t_seepYard, .inl (cI, 6, .inl g2)), (a_t_seepSize, .inl (cI, 6, .inl g3)), (a_t_growth, .inl (cI, 6, .inl g4)), (a_t_level, .inl (cI, 6, .inl g5)), (a_t_kind, .inl (cI, 5, .inl g6)), (a_t_childYard, .inl (cI, 5, .inl g7)), (a_t_pace, .inl (cI, 5, .inl g8)), (a_t_ear, .inl (cI, 5, .inl t_ear)), (a_o, .inr (7, [.int o_yards, .ref a_o_tides, .int o_seeps, .ref a_o_seepYard, .ref a_o_seepSize, .ref a_o_growth, .ref a_o_level, .int o_children, .ref a_o_kind, .ref a_o_childYard, .ref a_o_pace, .ref a_o_ear])), (a_o_tides, .inl (cI, 12, .inl o_tides)), (a_o_seepYard, .inl (cI, 6, .inl o_seepYard)), (a_o_seepSize, .inl (cI, 6, .inl o_seepSize)), (a_o_growth, .inl (cI, 6, .inl o_growth)), (a_o_level, .inl (cI, 6, .inl o_level)), (a_o_kind, .inl (cI, 5, .inl o_kind)), (a_o_childYard, .inl (cI, 5, .inl o_childYard)), (a_o_pace, .inl (cI, 5, .inl o_pace)), (a_o_ear, .inl (cI, 5, .inl o_ear))]) C hl.1 (C.2.2.2.2.2.2.1 _ q2_86) (C.2.2.2.2.2.2.1 _ q2_88) (C.2.2.2.2.2.2.1 _ q2_87) (C.2.2.2.2.2.2.1 _ q1_11) hw 18 8 1 rfl rfl rfl (by decide) (by decide) (by decide) eg8 rfl (Nat.le_of_ble_eq_true rfl) (Nat.le_of_ble_eq_true rfl) (dq dt_X7_copyFrom 75 rfl) (fun H locs hw => ?_)
  refine lv_aload_n hx hb (dq dt_X7_copyFrom 76 rfl) rfl (lv_at hl 1 rfl) ?_
  refine kGet (ci := 7) C in_X7 hw 10 rfl rfl 11 (by decide) (C.2.2.2.2.2.2.1 _ q1_85) rfl rfl (dq dt_X7_copyFrom 77 rfl) ?_
  refine lv_iconst (v := (0 : Int32)) hx hb (dq dt_X7_copyFrom 78 rfl) (by decide) ?_
  refine lv_aload_n hx hb (dq dt_X7_copyFrom 79 rfl) rfl (lv_at hl 0 rfl) ?_
  refine kGet (ci := 7) C in_X7 hw 0 rfl rfl 11 (by decide) (C.2.2.2.2.2.2.1 _ q1_85) rfl rfl (dq dt_X7_copyFrom 80 rfl) ?_
  refine lv_iconst (v := (0 : Int32)) hx hb (dq dt_X7_copyFrom 81 rfl) (by decide) ?_
  refine lv_iconst (v := (5 : Int32)) hx hb (dq dt_X7_copyFrom 82 rfl) (by decide) ?_
  obtain ⟨g9, eg9, hF⟩ := bd_ hF
  refine kCopyI (ws' := [(a_t, .inr (7, [.int o_yards, .ref a_t_tides, .int o_seeps, .ref a_t_seepYard, .ref a_t_seepSize, .ref a_t_growth, .ref a_t_level, .int o_children, .ref a_t_kind, .ref a_t_childYard, .ref a_t_pace, .ref a_t_ear])), (a_t_tides, .inl (cI, 12, .inl g1)), (a_t_seepYard, .inl (cI, 6, .inl g2)), (a_t_seepSize, .inl (cI, 6, .inl g3)), (a_t_growth, .inl (cI, 6, .inl g4)), (a_t_level, .inl (cI, 6, .inl g5)), (a_t_kind, .inl (cI, 5, .inl g6)), (a_t_childYard, .inl (cI, 5, .inl g7)), (a_t_pace, .inl (cI, 5, .inl g8)), (a_t_ear, .inl (cI, 5, .inl g9)), (a_o, .inr (7, [.int o_yards, .ref a_o_tides, .int o_seeps, .ref a_o_seepYard, .ref a_o_seepSize, .ref a_o_growth, .ref a_o_level, .int o_children, .ref a_o_kind, .ref a_o_childYard, .ref a_o_pace, .ref a_o_ear])), (a_o_tides, .inl (cI, 12, .inl o_tides)), (a_o_seepYard, .inl (cI, 6, .inl o_seepYard)), (a_o_seepSize, .inl (cI, 6, .inl o_seepSize)), (a_o_growth, .inl (cI, 6, .inl o_growth)), (a_o_level, .inl (cI, 6, .inl o_level)), (a_o_kind, .inl (cI, 5, .inl o_kind)), (a_o_childYard, .inl (cI, 5, .inl o_childYard)), (a_o_pace, .inl (cI, 5, .inl o_pace)), (a_o_ear, .inl (cI, 5, .inl o_ear))]) C hl.1 (C.2.2.2.2.2.2.1 _ q2_86) (C.2.2.2.2.2.2.1 _ q2_88) (C.2.2.2.2.2.2.1 _ q2_87) (C.2.2.2.2.2.2.1 _ q1_11) hw 19 9 1 rfl rfl rfl (by decide) (by decide) (by decide) eg9 rfl (Nat.le_of_ble_eq_true rfl) (Nat.le_of_ble_eq_true rfl) (dq dt_X7_copyFrom 83 rfl) (fun H locs hw => ?_)
  cases hF
  exact kRetV hQ C hw (dq dt_X7_copyFrom 84 rfl)
def F_X6_signAt (x_length : Int32) (x_signs : Nat → Int32) (p1 : Int32) : Option (Int32) :=
  if p1 < 0 then (some (-1 : Int32)) else (if x_length ≤ p1 then (some (-1 : Int32)) else (rd 200 x_signs p1 (fun v3 => some (v3 &&& (255 : Int32)))))
abbrev rm_X6_signAt : Room := { frames := 0, cells := 0, slots := 0, locals := 0 }
theorem kd_X6_signAt : yX6_signAt.cls = RX6 ∧ yX6_signAt.cls ≠ "java/lang/invoke/MethodHandle" ∧ yX6_signAt.cls ≠ "java/lang/invoke/VarHandle" ∧ (parseMethodDescriptor yX6_signAt.desc).map (fun d => d.parameters.length) = some 1 := by decide +kernel
set_option maxRecDepth 100000 in
set_option maxHeartbeats 4000000 in
theorem A_X6_signAt (l : Launch) (D : va_G) (cB cI cJ cZ : ClassId) (ad : (Nat → Nat) × (Nat → Nat)) (a_x a_x_signs : Nat) (x_length : Int32) (x_signs : Nat → Int32) (p1 : Int32) (r : Int32) (hF : F_X6_signAt x_length x_signs p1 = some r) : kM l yX6_signAt (Cond.code yX6_signAt cX6_signAt 2 (some .int) :: W0) rm_X6_signAt D (kT cB cI cJ cZ) ad [.ref a_x, .int p1] [(a_x, .inr (6, [.ref a_x_signs, .int x_length])), (a_x_signs, .inl (cB, 200, .inl x_signs))] (some (.int r)) [(a_x, .inr (6, [.ref a_x_signs, .int x_length])), (a_x_signs, .inl (cB, 200, .inl x_signs))] := by
  unfold F_X6_signAt at hF
  refine kStart (lv := [(0, .ref a_x), (1, .int p1)]) (own := "DikeWatch$Text") (plainFor_of_name (by decide)) rfl (Nat.le_of_ble_eq_true rfl) rfl ?_
  intro p e s m args below meth c A Q ls hQ C hx hb hw hl
  refine lv_iload_n hx hb (dq dt_X6_signAt 0 rfl) rfl (lv_at hl 1 rfl) ?_
  refine lv_if_lt (tgt := 25) hx hb (dq dt_X6_signAt 1 rfl) (by decide) (fun c1 => ?_) (fun c1 => ?_)
  · replace hF := if_t c1 hF
    refine lv_iconst (v := (-1 : Int32)) hx hb (dq dt_X6_signAt 13 rfl) (by decide) ?_
    cases hF
    exact kRetI hQ C hw (dq dt_X6_signAt 14 rfl)
  · replace hF := if_f c1 hF
    refine lv_iload_n hx hb (dq dt_X6_signAt 2 rfl) rfl (lv_at hl 1 rfl) ?_
    refine lv_aload_n hx hb (dq dt_X6_signAt 3 rfl) rfl (lv_at hl 0 rfl) ?_
    refine kGet (ci := 6) C in_X6 hw 0 rfl rfl 1 (by decide) (C.2.2.2.2.2.2.1 _ q1_34) rfl rfl (dq dt_X6_signAt 4 rfl) ?_
    refine lv_icmp_ge (tgt := 25) hx hb (dq dt_X6_signAt 5 rfl) (by decide) (fun c2 => ?_) (fun c2 => ?_)
    · replace hF := if_t c2 hF
      refine lv_iconst (v := (-1 : Int32)) hx hb (dq dt_X6_signAt 13 rfl) (by decide) ?_
      cases hF
      exact kRetI hQ C hw (dq dt_X6_signAt 14 rfl)
    · replace hF := if_f c2 hF
      refine lv_aload_n hx hb (dq dt_X6_signAt 6 rfl) rfl (lv_at hl 0 rfl) ?_
      refine kGet (ci := 6) C in_X6 hw 0 rfl rfl 0 (by decide) (C.2.2.2.2.2.2.1 _ q1_33) rfl rfl (dq dt_X6_signAt 7 rfl) ?_
      refine lv_iload_n hx hb (dq dt_X6_signAt 8 rfl) rfl (lv_at hl 1 rfl) ?_
      obtain ⟨v3, ev3, hi4, hF⟩ := rd_ hF
      refine kBald C hw 1 0 rfl rfl hi4 ev3 (dq dt_X6_signAt 9 rfl) ?_
      refine lv_sipush (v := (255 : Int32)) hx hb (dq dt_X6_signAt 10 rfl) (by decide) ?_
      refine lv_iand hx hb (dq dt_X6_signAt 11 rfl) ?_
      refine lv_goto (tgt := 26) hx hb (dq dt_X6_signAt 12 rfl) (by decide) ?_
      cases hF
      exact kRetI hQ C hw (dq dt_X6_signAt 14 rfl)
def F_X4_sortOf (p1 : Int32) : Option (Int32) :=
  if p1 = (-1 : Int32) then (some (0 : Int32)) else (zj0 (if p1 < (48 : Int32) then (some (3 : Int32)) else (if (57 : Int32) < p1 then (some (3 : Int32)) else (some (2 : Int32)))) (fun K2 => if p1 < (97 : Int32) then (K2) else (if (122 : Int32) < p1 then (K2) else (some (1 : Int32)))))
abbrev rm_X4_sortOf : Room := { frames := 0, cells := 0, slots := 0, locals := 0 }
theorem ke_X4_sortOf : yX4_sortOf.cls ≠ "java/lang/invoke/MethodHandle" ∧ yX4_sortOf.cls ≠ "java/lang/invoke/VarHandle" ∧ (parseMethodDescriptor yX4_sortOf.desc).map (fun d => d.parameters.length) = some 1 := by decide +kernel
set_option maxRecDepth 100000 in
set_option maxHeartbeats 4000000 in
theorem A_X4_sortOf (l : Launch) (D : va_G) (cB cI cJ cZ : ClassId) (ad : (Nat → Nat) × (Nat → Nat)) (p1 : Int32) (r : Int32) (hF : F_X4_sortOf p1 = some r) : kM l yX4_sortOf (Cond.code yX4_sortOf cX4_sortOf 1 (some .int) :: W0) rm_X4_sortOf D (kT cB cI cJ cZ) ad [.int p1] [] (some (.int r)) [] := by
  unfold F_X4_sortOf at hF
  refine kStart (lv := [(0, .int p1)]) (own := "DikeWatch$Reader") (plainFor_of_name (by decide)) rfl (Nat.le_of_ble_eq_true rfl) rfl ?_
  intro p e s m args below meth c A Q ls hQ C hx hb hw hl
  refine lv_iload_n hx hb (dq dt_X4_sortOf 0 rfl) rfl (lv_at hl 0 rfl) ?_
  refine lv_iconst (v := (-1 : Int32)) hx hb (dq dt_X4_sortOf 1 rfl) (by decide) ?_
  refine lv_icmp_ne (tgt := 7) hx hb (dq dt_X4_sortOf 2 rfl) (by decide) (fun c1 => ?_) (fun c1 => ?_)
  · replace hF := if_f c1 hF
    refine lv_iload_n hx hb (dq dt_X4_sortOf 5 rfl) rfl (lv_at hl 0 rfl) ?_
    refine lv_bipush (v := (97 : Int32)) hx hb (dq dt_X4_sortOf 6 rfl) (by decide) ?_
    obtain ⟨K2, hK2, hF⟩ := zj0_ hF
    have J2 : K2 = some r → ∀ (H : Heap) (locs : List Loc) (ls : Array Slot), kW D A s.heap [] H locs → lv_has ls 1 [(0, .int p1)] → W p l e rm_X4_sortOf s m args below meth c H locs 0 0 Q (F0 m 21 ls []) := by
      intro hF H locs ls hw hl
      replace hF := hK2 hF
      refine lv_iload_n hx hb (dq dt_X4_sortOf 13 rfl) rfl (lv_at hl 0 rfl) ?_
      refine lv_bipush (v := (48 : Int32)) hx hb (dq dt_X4_sortOf 14 rfl) (by decide) ?_
      refine lv_icmp_lt (tgt := 37) hx hb (dq dt_X4_sortOf 15 rfl) (by decide) (fun c3 => ?_) (fun c3 => ?_)
      · replace hF := if_t c3 hF
        refine lv_iconst (v := (3 : Int32)) hx hb (dq dt_X4_sortOf 21 rfl) (by decide) ?_
        cases hF
        exact kRetI hQ C hw (dq dt_X4_sortOf 22 rfl)
      · replace hF := if_f c3 hF
        refine lv_iload_n hx hb (dq dt_X4_sortOf 16 rfl) rfl (lv_at hl 0 rfl) ?_
        refine lv_bipush (v := (57 : Int32)) hx hb (dq dt_X4_sortOf 17 rfl) (by decide) ?_
        refine lv_icmp_gt (tgt := 37) hx hb (dq dt_X4_sortOf 18 rfl) (by decide) (fun c4 => ?_) (fun c4 => ?_)
        · replace hF := if_t c4 hF
          refine lv_iconst (v := (3 : Int32)) hx hb (dq dt_X4_sortOf 21 rfl) (by decide) ?_
          cases hF
          exact kRetI hQ C hw (dq dt_X4_sortOf 22 rfl)
        · replace hF := if_f c4 hF
          refine lv_iconst (v := (2 : Int32)) hx hb (dq dt_X4_sortOf 19 rfl) (by decide) ?_
          refine lv_goto (tgt := 38) hx hb (dq dt_X4_sortOf 20 rfl) (by decide) ?_
          cases hF
          exact kRetI hQ C hw (dq dt_X4_sortOf 22 rfl)
    refine lv_icmp_lt (tgt := 21) hx hb (dq dt_X4_sortOf 7 rfl) (by decide) (fun c5 => ?_) (fun c5 => ?_)
    · replace hF := if_t c5 hF
      exact J2 hF _ _ _ hw (lv_sub hl [0] rfl)
    · replace hF := if_f c5 hF
      refine lv_iload_n hx hb (dq dt_X4_sortOf 8 rfl) rfl (lv_at hl 0 rfl) ?_
      refine lv_bipush (v := (122 : Int32)) hx hb (dq dt_X4_sortOf 9 rfl) (by decide) ?_
      refine lv_icmp_gt (tgt := 21) hx hb (dq dt_X4_sortOf 10 rfl) (by decide) (fun c6 => ?_) (fun c6 => ?_)
      · replace hF := if_t c6 hF
        exact J2 hF _ _ _ hw (lv_sub hl [0] rfl)
      · replace hF := if_f c6 hF
        refine lv_iconst (v := (1 : Int32)) hx hb (dq dt_X4_sortOf 11 rfl) (by decide) ?_
        cases hF
        exact kRetI hQ C hw (dq dt_X4_sortOf 12 rfl)
  · replace hF := if_t c1 hF
    refine lv_iconst (v := (0 : Int32)) hx hb (dq dt_X4_sortOf 3 rfl) (by decide) ?_
    cases hF
    exact kRetI hQ C hw (dq dt_X4_sortOf 4 rfl)
def F_X4_toNextToken (x_length : Int32) (x_signs : Nat → Int32) (r_sort : Int32) (r_begin : Int32) (r_end : Int32) : Option (Int32 × Int32 × Int32) :=
  zl1 (fun h1 ag2 => zj0 (zc1 (F_X6_signAt x_length x_signs h1) (fun v4 => zc1 (F_X4_sortOf v4) (fun v6 => zj1 (fun y8 => zj0 (zl1 (fun h11 ag12 => if (1 : Int32) = 0 then (some (v6, h1, h11)) else (if x_length ≤ h11 then (some (v6, h1, h11)) else (zc1 (F_X6_signAt x_length x_signs h11) (fun v15 => zc1 (F_X4_sortOf v15) (fun v17 => if v17 = v6 then (bd (h11 + (1 : Int32)) (fun v20 => ag12 v20)) else (some (v6, h1, h11))))))) FU y8) (fun K10 => if v6 = (1 : Int32) then (K10) else (if v6 = (2 : Int32) then (K10) else (zl1 (fun h23 ag24 => if (0 : Int32) = 0 then (some (v6, h1, h23)) else (if x_length ≤ h23 then (some (v6, h1, h23)) else (zc1 (F_X6_signAt x_length x_signs h23) (fun v27 => zc1 (F_X4_sortOf v27) (fun v29 => if v29 = v6 then (bd (h23 + (1 : Int32)) (fun v32 => ag24 v32)) else (some (v6, h1, h23))))))) FU y8)))) (fun K9 => if v6 = 0 then (K9 h1) else (K9 (h1 + (1 : Int32))))))) (fun K3 => if x_length ≤ h1 then (K3) else (zc1 (F_X6_signAt x_length x_signs h1) (fun v35 => if v35 = (32 : Int32) then (bd (h1 + (1 : Int32)) (fun v38 => ag2 v38)) else (K3))))) FU r_end
abbrev rm_X4_toNextToken : Room := { frames := 1, cells := 0, slots := 0, locals := 21 }
theorem kd_X4_toNextToken : yX4_toNextToken.cls = RX4 ∧ yX4_toNextToken.cls ≠ "java/lang/invoke/MethodHandle" ∧ yX4_toNextToken.cls ≠ "java/lang/invoke/VarHandle" ∧ (parseMethodDescriptor yX4_toNextToken.desc).map (fun d => d.parameters.length) = some 0 := by decide +kernel
set_option maxRecDepth 100000 in
set_option maxHeartbeats 4000000 in
theorem A_X4_toNextToken (l : Launch) (D : va_G) (cB cI cJ cZ : ClassId) (ad : (Nat → Nat) × (Nat → Nat)) (a_x a_x_signs a_r a_g : Nat) (x_length : Int32) (x_signs : Nat → Int32) (r_sort : Int32) (r_begin : Int32) (r_end : Int32) (r_lines : Int32) (r_sort' : Int32) (r_begin' : Int32) (r_end' : Int32) (hF : F_X4_toNextToken x_length x_signs r_sort r_begin r_end = some (r_sort', r_begin', r_end')) : kM l yX4_toNextToken (Cond.code yX4_toNextToken cX4_toNextToken 2 (none) :: W0) rm_X4_toNextToken D (kT cB cI cJ cZ) ad [.ref a_r] [(a_x, .inr (6, [.ref a_x_signs, .int x_length])), (a_x_signs, .inl (cB, 200, .inl x_signs)), (a_r, .inr (4, [.ref a_x, .ref a_g, .int r_sort, .int r_begin, .int r_end, .int r_lines]))] none [(a_x, .inr (6, [.ref a_x_signs, .int x_length])), (a_x_signs, .inl (cB, 200, .inl x_signs)), (a_r, .inr (4, [.ref a_x, .ref a_g, .int (r_sort'), .int (r_begin'), .int (r_end'), .int r_lines]))] := by
  unfold F_X4_toNextToken at hF
  refine kStart (lv := [(0, .ref a_r)]) (own := "DikeWatch$Reader") (plainFor_of_name (by decide)) rfl (Nat.le_of_ble_eq_true rfl) rfl ?_
  intro p e s m args below meth c A Q ls hQ C hx hb hw hl
  refine lv_aload_n hx hb (dq dt_X4_toNextToken 0 rfl) rfl (lv_at hl 0 rfl) ?_
  refine lv_aload_n hx hb (dq dt_X4_toNextToken 1 rfl) rfl (lv_at hl 0 rfl) ?_
  refine kGet (ci := 4) C in_X4 hw 2 rfl rfl 4 (by decide) (C.2.2.2.2.2.2.1 _ q1_180) rfl rfl (dq dt_X4_toNextToken 2 rfl) ?_
  refine kPut (ci := 4) (ws' := [(a_x, .inr (6, [.ref a_x_signs, .int x_length])), (a_x_signs, .inl (cB, 200, .inl x_signs)), (a_r, .inr (4, [.ref a_x, .ref a_g, .int r_sort, .int r_end, .int r_end, .int r_lines]))]) C in_X4 tyX4 tyX4_ok nmX4 hw 2 rfl rfl 3 (by decide) (C.2.2.2.2.2.2.1 _ q1_179) rfl rfl rfl rfl (Nat.le_of_ble_eq_true rfl) rfl (dq dt_X4_toNextToken 3 rfl) (fun H locs hw => ?_)
  obtain ⟨K2, hK02, hK2, hF⟩ := zl1_ hF
  have L2 : ∀ (n : Nat) (h1 : Int32), K2 n h1 = some (r_sort', r_begin', r_end') → ∀ (H : Heap) (locs : List Loc) (ls : Array Slot), kW D A s.heap [(a_x, .inr (6, [.ref a_x_signs, .int x_length])), (a_x_signs, .inl (cB, 200, .inl x_signs)), (a_r, .inr (4, [.ref a_x, .ref a_g, .int r_sort, .int h1, .int r_end, .int r_lines]))] H locs → lv_has ls 2 [(0, .ref a_r)] → W p l e rm_X4_toNextToken s m args below meth c H locs 0 0 Q (F0 m 8 ls []) := by
    intro n
    induction n with
    | zero => intro h1 hF; exact (lp_no (hK02 h1) hF).elim
    | succ n ih2 =>
      intro h1 hF H locs ls hw hl
      replace hF := hK2 n h1 hF
      refine lv_aload_n hx hb (dq dt_X4_toNextToken 4 rfl) rfl (lv_at hl 0 rfl) ?_
      refine kGet (ci := 4) C in_X4 hw 2 rfl rfl 3 (by decide) (C.2.2.2.2.2.2.1 _ q1_179) rfl rfl (dq dt_X4_toNextToken 5 rfl) ?_
      refine lv_aload_n hx hb (dq dt_X4_toNextToken 6 rfl) rfl (lv_at hl 0 rfl) ?_
      refine kGet (ci := 4) C in_X4 hw 2 rfl rfl 0 (by decide) (C.2.2.2.2.2.2.1 _ q1_176) rfl rfl (dq dt_X4_toNextToken 7 rfl) ?_
      refine kGet (ci := 6) C in_X6 hw 0 rfl rfl 1 (by decide) (C.2.2.2.2.2.2.1 _ q1_36) rfl rfl (dq dt_X4_toNextToken 8 rfl) ?_
      obtain ⟨K3, hK3, hF⟩ := zj0_ hF
      have J3 : K3 = some (r_sort', r_begin', r_end') → ∀ (H : Heap) (locs : List Loc) (ls : Array Slot), kW D A s.heap [(a_x, .inr (6, [.ref a_x_signs, .int x_length])), (a_x_signs, .inl (cB, 200, .inl x_signs)), (a_r, .inr (4, [.ref a_x, .ref a_g, .int r_sort, .int h1, .int r_end, .int r_lines]))] H locs → lv_has ls 2 [(0, .ref a_r)] → W p l e rm_X4_toNextToken s m args below meth c H locs 0 0 Q (F0 m 51 ls []) := by
        intro hF H locs ls hw hl
        replace hF := hK3 hF
        refine lv_aload_n hx hb (dq dt_X4_toNextToken 24 rfl) rfl (lv_at hl 0 rfl) ?_
        refine lv_aload_n hx hb (dq dt_X4_toNextToken 25 rfl) rfl (lv_at hl 0 rfl) ?_
        refine kGet (ci := 4) C in_X4 hw 2 rfl rfl 0 (by decide) (C.2.2.2.2.2.2.1 _ q1_176) rfl rfl (dq dt_X4_toNextToken 26 rfl) ?_
        refine lv_aload_n hx hb (dq dt_X4_toNextToken 27 rfl) rfl (lv_at hl 0 rfl) ?_
        refine kGet (ci := 4) C in_X4 hw 2 rfl rfl 3 (by decide) (C.2.2.2.2.2.2.1 _ q1_179) rfl rfl (dq dt_X4_toNextToken 28 rfl) ?_
        obtain ⟨v4, hr5, hF⟩ := zc1_ hF
        refine kCallVR C hw (A_X6_signAt l D cB cI cJ cZ ad a_x a_x_signs x_length x_signs h1 v4 hr5) (cwV 1 C.2.2.2.2.2.2.1 (w0_V0 q2_104 q2_101 q2_102 q2_103 q1_2) rfl rfl rfl kd_X6_signAt ⟨Nat.le_of_ble_eq_true rfl, Nat.le_of_ble_eq_true rfl⟩) [0, 1] rfl rfl 0 6 rfl rfl hl.1 rfl rfl rfl (Nat.le_of_ble_eq_true rfl) ⟨Nat.le_of_ble_eq_true rfl, Nat.le_of_ble_eq_true rfl⟩ (dq dt_X4_toNextToken 29 rfl) (fun H locs hw => ?_)
        obtain ⟨v6, hr7, hF⟩ := zc1_ hF
        refine kCallSP C hw (A_X4_sortOf l D cB cI cJ cZ ad v4 v6 hr7) (va_cwS 1 C.2.2.2.2.2.2.1 (w0_S0 q2_107 q2_105 q2_106 q1_6) rfl rfl rfl ke_X4_sortOf ⟨Nat.le_of_ble_eq_true rfl, Nat.le_of_ble_eq_true rfl⟩) hl.1 rfl rfl rfl (Nat.le_of_ble_eq_true rfl) ⟨Nat.le_of_ble_eq_true rfl, Nat.le_of_ble_eq_true rfl⟩ (dq dt_X4_toNextToken 30 rfl) (fun H locs hw => ?_)
        refine kPut (ci := 4) (ws' := [(a_x, .inr (6, [.ref a_x_signs, .int x_length])), (a_x_signs, .inl (cB, 200, .inl x_signs)), (a_r, .inr (4, [.ref a_x, .ref a_g, .int v6, .int h1, .int r_end, .int r_lines]))]) C in_X4 tyX4 tyX4_ok nmX4 hw 2 rfl rfl 2 (by decide) (C.2.2.2.2.2.2.1 _ q1_178) rfl rfl rfl rfl (Nat.le_of_ble_eq_true rfl) rfl (dq dt_X4_toNextToken 31 rfl) (fun H locs hw => ?_)
        refine lv_aload_n hx hb (dq dt_X4_toNextToken 32 rfl) rfl (lv_at hl 0 rfl) ?_
        refine lv_aload_n hx hb (dq dt_X4_toNextToken 33 rfl) rfl (lv_at hl 0 rfl) ?_
        refine kGet (ci := 4) C in_X4 hw 2 rfl rfl 2 (by decide) (C.2.2.2.2.2.2.1 _ q1_178) rfl rfl (dq dt_X4_toNextToken 34 rfl) ?_
        obtain ⟨K9, hK9, hF⟩ := zj1_ hF
        have J9 : ∀ (y8 : Int32), K9 y8 = some (r_sort', r_begin', r_end') → ∀ (H : Heap) (locs : List Loc) (ls : Array Slot), kW D A s.heap [(a_x, .inr (6, [.ref a_x_signs, .int x_length])), (a_x_signs, .inl (cB, 200, .inl x_signs)), (a_r, .inr (4, [.ref a_x, .ref a_g, .int v6, .int h1, .int r_end, .int r_lines]))] H locs → lv_has ls 2 [(0, .ref a_r)] → W p l e rm_X4_toNextToken s m args below meth c H locs 0 0 Q (F0 m 90 ls [.int y8, .ref a_r]) := by
          intro y8 hF H locs ls hw hl
          replace hF := hK9 y8 hF
          refine kPut (ci := 4) (ws' := [(a_x, .inr (6, [.ref a_x_signs, .int x_length])), (a_x_signs, .inl (cB, 200, .inl x_signs)), (a_r, .inr (4, [.ref a_x, .ref a_g, .int v6, .int h1, .int y8, .int r_lines]))]) C in_X4 tyX4 tyX4_ok nmX4 hw 2 rfl rfl 4 (by decide) (C.2.2.2.2.2.2.1 _ q1_180) rfl rfl rfl rfl (Nat.le_of_ble_eq_true rfl) rfl (dq dt_X4_toNextToken 43 rfl) (fun H locs hw => ?_)
          refine lv_aload_n hx hb (dq dt_X4_toNextToken 44 rfl) rfl (lv_at hl 0 rfl) ?_
          refine kGet (ci := 4) C in_X4 hw 2 rfl rfl 2 (by decide) (C.2.2.2.2.2.2.1 _ q1_178) rfl rfl (dq dt_X4_toNextToken 45 rfl) ?_
          refine lv_iconst (v := (1 : Int32)) hx hb (dq dt_X4_toNextToken 46 rfl) (by decide) ?_
          obtain ⟨K10, hK10, hF⟩ := zj0_ hF
          have J10 : K10 = some (r_sort', r_begin', r_end') → ∀ (H : Heap) (locs : List Loc) (ls : Array Slot), kW D A s.heap [(a_x, .inr (6, [.ref a_x_signs, .int x_length])), (a_x_signs, .inl (cB, 200, .inl x_signs)), (a_r, .inr (4, [.ref a_x, .ref a_g, .int v6, .int h1, .int y8, .int r_lines]))] H locs → lv_has ls 2 [(0, .ref a_r)] → W p l e rm_X4_toNextToken s m args below meth c H locs 0 0 Q (F0 m 109 ls []) := by
            intro hF H locs ls hw hl
            replace hF := hK10 hF
            refine lv_iconst (v := (1 : Int32)) hx hb (dq dt_X4_toNextToken 52 rfl) (by decide) ?_
            refine lv_goto (tgt := 114) hx hb (dq dt_X4_toNextToken 53 rfl) (by decide) ?_
            refine lv_istore_n (lv' := [(1, .int (1 : Int32)), (0, .ref a_r)]) hx hb (dq dt_X4_toNextToken 55 rfl) rfl hl (by decide) rfl (fun ls hl => ?_)
            obtain ⟨K12, hK012, hK12, hF⟩ := zl1_ hF
            have L12 : ∀ (n : Nat) (h11 : Int32), K12 n h11 = some (r_sort', r_begin', r_end') → ∀ (H : Heap) (locs : List Loc) (ls : Array Slot), kW D A s.heap [(a_x, .inr (6, [.ref a_x_signs, .int x_length])), (a_x_signs, .inl (cB, 200, .inl x_signs)), (a_r, .inr (4, [.ref a_x, .ref a_g, .int v6, .int h1, .int h11, .int r_lines]))] H locs → lv_has ls 2 [(0, .ref a_r), (1, .int (1 : Int32))] → W p l e rm_X4_toNextToken s m args below meth c H locs 0 0 Q (F0 m 115 ls []) := by
              intro n
              induction n with
              | zero => intro h11 hF; exact (lp_no (hK012 h11) hF).elim
              | succ n ih12 =>
                intro h11 hF H locs ls hw hl
                replace hF := hK12 n h11 hF
                refine lv_iload_n hx hb (dq dt_X4_toNextToken 56 rfl) rfl (lv_at hl 1 rfl) ?_
                refine lv_if_eq (tgt := 167) hx hb (dq dt_X4_toNextToken 57 rfl) (by decide) (fun c13 => ?_) (fun c13 => ?_)
                · replace hF := if_t c13 hF
                  cases hF
                  exact kRetV hQ C hw (dq dt_X4_toNextToken 80 rfl)
                · replace hF := if_f c13 hF
                  refine lv_aload_n hx hb (dq dt_X4_toNextToken 58 rfl) rfl (lv_at hl 0 rfl) ?_
                  refine kGet (ci := 4) C in_X4 hw 2 rfl rfl 4 (by decide) (C.2.2.2.2.2.2.1 _ q1_180) rfl rfl (dq dt_X4_toNextToken 59 rfl) ?_
                  refine lv_aload_n hx hb (dq dt_X4_toNextToken 60 rfl) rfl (lv_at hl 0 rfl) ?_
                  refine kGet (ci := 4) C in_X4 hw 2 rfl rfl 0 (by decide) (C.2.2.2.2.2.2.1 _ q1_176) rfl rfl (dq dt_X4_toNextToken 61 rfl) ?_
                  refine kGet (ci := 6) C in_X6 hw 0 rfl rfl 1 (by decide) (C.2.2.2.2.2.2.1 _ q1_36) rfl rfl (dq dt_X4_toNextToken 62 rfl) ?_
                  refine lv_icmp_ge (tgt := 167) hx hb (dq dt_X4_toNextToken 63 rfl) (by decide) (fun c14 => ?_) (fun c14 => ?_)
                  · replace hF := if_t c14 hF
                    cases hF
                    exact kRetV hQ C hw (dq dt_X4_toNextToken 80 rfl)
                  · replace hF := if_f c14 hF
                    refine lv_aload_n hx hb (dq dt_X4_toNextToken 64 rfl) rfl (lv_at hl 0 rfl) ?_
                    refine kGet (ci := 4) C in_X4 hw 2 rfl rfl 0 (by decide) (C.2.2.2.2.2.2.1 _ q1_176) rfl rfl (dq dt_X4_toNextToken 65 rfl) ?_
                    refine lv_aload_n hx hb (dq dt_X4_toNextToken 66 rfl) rfl (lv_at hl 0 rfl) ?_
                    refine kGet (ci := 4) C in_X4 hw 2 rfl rfl 4 (by decide) (C.2.2.2.2.2.2.1 _ q1_180) rfl rfl (dq dt_X4_toNextToken 67 rfl) ?_
                    obtain ⟨v15, hr16, hF⟩ := zc1_ hF
                    refine kCallVR C hw (A_X6_signAt l D cB cI cJ cZ ad a_x a_x_signs x_length x_signs h11 v15 hr16) (cwV 1 C.2.2.2.2.2.2.1 (w0_V0 q2_104 q2_101 q2_102 q2_103 q1_2) rfl rfl rfl kd_X6_signAt ⟨Nat.le_of_ble_eq_true rfl, Nat.le_of_ble_eq_true rfl⟩) [0, 1] rfl rfl 0 6 rfl rfl hl.1 rfl rfl rfl (Nat.le_of_ble_eq_true rfl) ⟨Nat.le_of_ble_eq_true rfl, Nat.le_of_ble_eq_true rfl⟩ (dq dt_X4_toNextToken 68 rfl) (fun H locs hw => ?_)
                    obtain ⟨v17, hr18, hF⟩ := zc1_ hF
                    refine kCallSP C hw (A_X4_sortOf l D cB cI cJ cZ ad v15 v17 hr18) (va_cwS 1 C.2.2.2.2.2.2.1 (w0_S0 q2_107 q2_105 q2_106 q1_6) rfl rfl rfl ke_X4_sortOf ⟨Nat.le_of_ble_eq_true rfl, Nat.le_of_ble_eq_true rfl⟩) hl.1 rfl rfl rfl (Nat.le_of_ble_eq_true rfl) ⟨Nat.le_of_ble_eq_true rfl, Nat.le_of_ble_eq_true rfl⟩ (dq dt_X4_toNextToken 69 rfl) (fun H locs hw => ?_)
                    refine lv_aload_n hx hb (dq dt_X4_toNextToken 70 rfl) rfl (lv_at hl 0 rfl) ?_
                    refine kGet (ci := 4) C in_X4 hw 2 rfl rfl 2 (by decide) (C.2.2.2.2.2.2.1 _ q1_178) rfl rfl (dq dt_X4_toNextToken 71 rfl) ?_
                    refine lv_icmp_ne (tgt := 167) hx hb (dq dt_X4_toNextToken 72 rfl) (by decide) (fun c19 => ?_) (fun c19 => ?_)
                    · replace hF := if_f c19 hF
                      cases hF
                      exact kRetV hQ C hw (dq dt_X4_toNextToken 80 rfl)
                    · replace hF := if_t c19 hF
                      refine lv_aload_n hx hb (dq dt_X4_toNextToken 73 rfl) rfl (lv_at hl 0 rfl) ?_
                      refine lv_dup hx hb (dq dt_X4_toNextToken 74 rfl) rfl ?_
                      refine kGet (ci := 4) C in_X4 hw 2 rfl rfl 4 (by decide) (C.2.2.2.2.2.2.1 _ q1_180) rfl rfl (dq dt_X4_toNextToken 75 rfl) ?_
                      refine lv_iconst (v := (1 : Int32)) hx hb (dq dt_X4_toNextToken 76 rfl) (by decide) ?_
                      refine lv_iadd hx hb (dq dt_X4_toNextToken 77 rfl) ?_
                      obtain ⟨v20, ev20, hF⟩ := bd_ hF
                      refine kNmI ev20 ?_
                      refine kPut (ci := 4) (ws' := [(a_x, .inr (6, [.ref a_x_signs, .int x_length])), (a_x_signs, .inl (cB, 200, .inl x_signs)), (a_r, .inr (4, [.ref a_x, .ref a_g, .int v6, .int h1, .int v20, .int r_lines]))]) C in_X4 tyX4 tyX4_ok nmX4 hw 2 rfl rfl 4 (by decide) (C.2.2.2.2.2.2.1 _ q1_180) rfl rfl rfl rfl (Nat.le_of_ble_eq_true rfl) rfl (dq dt_X4_toNextToken 78 rfl) (fun H locs hw => ?_)
                      refine lv_goto (tgt := 115) hx hb (dq dt_X4_toNextToken 79 rfl) (by decide) ?_
                      exact ih12 v20 hF _ _ _ hw (lv_sub hl [0, 1] rfl)
            exact L12 _ y8 hF _ _ _ hw (lv_sub hl [1, 0] rfl)
          refine lv_icmp_eq (tgt := 109) hx hb (dq dt_X4_toNextToken 47 rfl) (by decide) (fun c21 => ?_) (fun c21 => ?_)
          · replace hF := if_t c21 hF
            exact J10 hF _ _ _ hw (lv_sub hl [0] rfl)
          · replace hF := if_f c21 hF
            refine lv_aload_n hx hb (dq dt_X4_toNextToken 48 rfl) rfl (lv_at hl 0 rfl) ?_
            refine kGet (ci := 4) C in_X4 hw 2 rfl rfl 2 (by decide) (C.2.2.2.2.2.2.1 _ q1_178) rfl rfl (dq dt_X4_toNextToken 49 rfl) ?_
            refine lv_iconst (v := (2 : Int32)) hx hb (dq dt_X4_toNextToken 50 rfl) (by decide) ?_
            refine lv_icmp_ne (tgt := 113) hx hb (dq dt_X4_toNextToken 51 rfl) (by decide) (fun c22 => ?_) (fun c22 => ?_)
            · replace hF := if_f c22 hF
              refine lv_iconst (v := (0 : Int32)) hx hb (dq dt_X4_toNextToken 54 rfl) (by decide) ?_
              refine lv_istore_n (lv' := [(1, .int (0 : Int32)), (0, .ref a_r)]) hx hb (dq dt_X4_toNextToken 55 rfl) rfl hl (by decide) rfl (fun ls hl => ?_)
              obtain ⟨K24, hK024, hK24, hF⟩ := zl1_ hF
              have L24 : ∀ (n : Nat) (h23 : Int32), K24 n h23 = some (r_sort', r_begin', r_end') → ∀ (H : Heap) (locs : List Loc) (ls : Array Slot), kW D A s.heap [(a_x, .inr (6, [.ref a_x_signs, .int x_length])), (a_x_signs, .inl (cB, 200, .inl x_signs)), (a_r, .inr (4, [.ref a_x, .ref a_g, .int v6, .int h1, .int h23, .int r_lines]))] H locs → lv_has ls 2 [(0, .ref a_r), (1, .int (0 : Int32))] → W p l e rm_X4_toNextToken s m args below meth c H locs 0 0 Q (F0 m 115 ls []) := by
                intro n
                induction n with
                | zero => intro h23 hF; exact (lp_no (hK024 h23) hF).elim
                | succ n ih24 =>
                  intro h23 hF H locs ls hw hl
                  replace hF := hK24 n h23 hF
                  refine lv_iload_n hx hb (dq dt_X4_toNextToken 56 rfl) rfl (lv_at hl 1 rfl) ?_
                  refine lv_if_eq (tgt := 167) hx hb (dq dt_X4_toNextToken 57 rfl) (by decide) (fun c25 => ?_) (fun c25 => ?_)
                  · replace hF := if_t c25 hF
                    cases hF
                    exact kRetV hQ C hw (dq dt_X4_toNextToken 80 rfl)
                  · replace hF := if_f c25 hF
                    refine lv_aload_n hx hb (dq dt_X4_toNextToken 58 rfl) rfl (lv_at hl 0 rfl) ?_
                    refine kGet (ci := 4) C in_X4 hw 2 rfl rfl 4 (by decide) (C.2.2.2.2.2.2.1 _ q1_180) rfl rfl (dq dt_X4_toNextToken 59 rfl) ?_
                    refine lv_aload_n hx hb (dq dt_X4_toNextToken 60 rfl) rfl (lv_at hl 0 rfl) ?_
                    refine kGet (ci := 4) C in_X4 hw 2 rfl rfl 0 (by decide) (C.2.2.2.2.2.2.1 _ q1_176) rfl rfl (dq dt_X4_toNextToken 61 rfl) ?_
                    refine kGet (ci := 6) C in_X6 hw 0 rfl rfl 1 (by decide) (C.2.2.2.2.2.2.1 _ q1_36) rfl rfl (dq dt_X4_toNextToken 62 rfl) ?_
                    refine lv_icmp_ge (tgt := 167) hx hb (dq dt_X4_toNextToken 63 rfl) (by decide) (fun c26 => ?_) (fun c26 => ?_)
                    · replace hF := if_t c26 hF
                      cases hF
                      exact kRetV hQ C hw (dq dt_X4_toNextToken 80 rfl)
                    · replace hF := if_f c26 hF
                      refine lv_aload_n hx hb (dq dt_X4_toNextToken 64 rfl) rfl (lv_at hl 0 rfl) ?_
                      refine kGet (ci := 4) C in_X4 hw 2 rfl rfl 0 (by decide) (C.2.2.2.2.2.2.1 _ q1_176) rfl rfl (dq dt_X4_toNextToken 65 rfl) ?_
                      refine lv_aload_n hx hb (dq dt_X4_toNextToken 66 rfl) rfl (lv_at hl 0 rfl) ?_
                      refine kGet (ci := 4) C in_X4 hw 2 rfl rfl 4 (by decide) (C.2.2.2.2.2.2.1 _ q1_180) rfl rfl (dq dt_X4_toNextToken 67 rfl) ?_
                      obtain ⟨v27, hr28, hF⟩ := zc1_ hF
                      refine kCallVR C hw (A_X6_signAt l D cB cI cJ cZ ad a_x a_x_signs x_length x_signs h23 v27 hr28) (cwV 1 C.2.2.2.2.2.2.1 (w0_V0 q2_104 q2_101 q2_102 q2_103 q1_2) rfl rfl rfl kd_X6_signAt ⟨Nat.le_of_ble_eq_true rfl, Nat.le_of_ble_eq_true rfl⟩) [0, 1] rfl rfl 0 6 rfl rfl hl.1 rfl rfl rfl (Nat.le_of_ble_eq_true rfl) ⟨Nat.le_of_ble_eq_true rfl, Nat.le_of_ble_eq_true rfl⟩ (dq dt_X4_toNextToken 68 rfl) (fun H locs hw => ?_)
                      obtain ⟨v29, hr30, hF⟩ := zc1_ hF
                      refine kCallSP C hw (A_X4_sortOf l D cB cI cJ cZ ad v27 v29 hr30) (va_cwS 1 C.2.2.2.2.2.2.1 (w0_S0 q2_107 q2_105 q2_106 q1_6) rfl rfl rfl ke_X4_sortOf ⟨Nat.le_of_ble_eq_true rfl, Nat.le_of_ble_eq_true rfl⟩) hl.1 rfl rfl rfl (Nat.le_of_ble_eq_true rfl) ⟨Nat.le_of_ble_eq_true rfl, Nat.le_of_ble_eq_true rfl⟩ (dq dt_X4_toNextToken 69 rfl) (fun H locs hw => ?_)
                      refine lv_aload_n hx hb (dq dt_X4_toNextToken 70 rfl) rfl (lv_at hl 0 rfl) ?_
                      refine kGet (ci := 4) C in_X4 hw 2 rfl rfl 2 (by decide) (C.2.2.2.2.2.2.1 _ q1_178) rfl rfl (dq dt_X4_toNextToken 71 rfl) ?_
                      refine lv_icmp_ne (tgt := 167) hx hb (dq dt_X4_toNextToken 72 rfl) (by decide) (fun c31 => ?_) (fun c31 => ?_)
                      · replace hF := if_f c31 hF
                        cases hF
                        exact kRetV hQ C hw (dq dt_X4_toNextToken 80 rfl)
                      · replace hF := if_t c31 hF
                        refine lv_aload_n hx hb (dq dt_X4_toNextToken 73 rfl) rfl (lv_at hl 0 rfl) ?_
                        refine lv_dup hx hb (dq dt_X4_toNextToken 74 rfl) rfl ?_
                        refine kGet (ci := 4) C in_X4 hw 2 rfl rfl 4 (by decide) (C.2.2.2.2.2.2.1 _ q1_180) rfl rfl (dq dt_X4_toNextToken 75 rfl) ?_
                        refine lv_iconst (v := (1 : Int32)) hx hb (dq dt_X4_toNextToken 76 rfl) (by decide) ?_
                        refine lv_iadd hx hb (dq dt_X4_toNextToken 77 rfl) ?_
                        obtain ⟨v32, ev32, hF⟩ := bd_ hF
                        refine kNmI ev32 ?_
                        refine kPut (ci := 4) (ws' := [(a_x, .inr (6, [.ref a_x_signs, .int x_length])), (a_x_signs, .inl (cB, 200, .inl x_signs)), (a_r, .inr (4, [.ref a_x, .ref a_g, .int v6, .int h1, .int v32, .int r_lines]))]) C in_X4 tyX4 tyX4_ok nmX4 hw 2 rfl rfl 4 (by decide) (C.2.2.2.2.2.2.1 _ q1_180) rfl rfl rfl rfl (Nat.le_of_ble_eq_true rfl) rfl (dq dt_X4_toNextToken 78 rfl) (fun H locs hw => ?_)
                        refine lv_goto (tgt := 115) hx hb (dq dt_X4_toNextToken 79 rfl) (by decide) ?_
                        exact ih24 v32 hF _ _ _ hw (lv_sub hl [0, 1] rfl)
              exact L24 _ y8 hF _ _ _ hw (lv_sub hl [1, 0] rfl)
            · replace hF := if_t c22 hF
              exact J10 hF _ _ _ hw (lv_sub hl [0] rfl)
        refine lv_if_ne (tgt := 84) hx hb (dq dt_X4_toNextToken 35 rfl) (by decide) (fun c33 => ?_) (fun c33 => ?_)
        · replace hF := if_f c33 hF
          refine lv_aload_n hx hb (dq dt_X4_toNextToken 39 rfl) rfl (lv_at hl 0 rfl) ?_
          refine kGet (ci := 4) C in_X4 hw 2 rfl rfl 3 (by decide) (C.2.2.2.2.2.2.1 _ q1_179) rfl rfl (dq dt_X4_toNextToken 40 rfl) ?_
          refine lv_iconst (v := (1 : Int32)) hx hb (dq dt_X4_toNextToken 41 rfl) (by decide) ?_
          refine lv_iadd hx hb (dq dt_X4_toNextToken 42 rfl) ?_
          exact J9 (h1 + (1 : Int32)) hF _ _ _ hw (lv_sub hl [0] rfl)
        · replace hF := if_t c33 hF
          refine lv_aload_n hx hb (dq dt_X4_toNextToken 36 rfl) rfl (lv_at hl 0 rfl) ?_
          refine kGet (ci := 4) C in_X4 hw 2 rfl rfl 3 (by decide) (C.2.2.2.2.2.2.1 _ q1_179) rfl rfl (dq dt_X4_toNextToken 37 rfl) ?_
          refine lv_goto (tgt := 90) hx hb (dq dt_X4_toNextToken 38 rfl) (by decide) ?_
          exact J9 h1 hF _ _ _ hw (lv_sub hl [0] rfl)
      refine lv_icmp_ge (tgt := 51) hx hb (dq dt_X4_toNextToken 9 rfl) (by decide) (fun c34 => ?_) (fun c34 => ?_)
      · replace hF := if_t c34 hF
        exact J3 hF _ _ _ hw (lv_sub hl [0] rfl)
      · replace hF := if_f c34 hF
        refine lv_aload_n hx hb (dq dt_X4_toNextToken 10 rfl) rfl (lv_at hl 0 rfl) ?_
        refine kGet (ci := 4) C in_X4 hw 2 rfl rfl 0 (by decide) (C.2.2.2.2.2.2.1 _ q1_176) rfl rfl (dq dt_X4_toNextToken 11 rfl) ?_
        refine lv_aload_n hx hb (dq dt_X4_toNextToken 12 rfl) rfl (lv_at hl 0 rfl) ?_
        refine kGet (ci := 4) C in_X4 hw 2 rfl rfl 3 (by decide) (C.2.2.2.2.2.2.1 _ q1_179) rfl rfl (dq dt_X4_toNextToken 13 rfl) ?_
        obtain ⟨v35, hr36, hF⟩ := zc1_ hF
        refine kCallVR C hw (A_X6_signAt l D cB cI cJ cZ ad a_x a_x_signs x_length x_signs h1 v35 hr36) (cwV 1 C.2.2.2.2.2.2.1 (w0_V0 q2_104 q2_101 q2_102 q2_103 q1_2) rfl rfl rfl kd_X6_signAt ⟨Nat.le_of_ble_eq_true rfl, Nat.le_of_ble_eq_true rfl⟩) [0, 1] rfl rfl 0 6 rfl rfl hl.1 rfl rfl rfl (Nat.le_of_ble_eq_true rfl) ⟨Nat.le_of_ble_eq_true rfl, Nat.le_of_ble_eq_true rfl⟩ (dq dt_X4_toNextToken 14 rfl) (fun H locs hw => ?_)
        refine lv_bipush (v := (32 : Int32)) hx hb (dq dt_X4_toNextToken 15 rfl) (by decide) ?_
        refine lv_icmp_ne (tgt := 51) hx hb (dq dt_X4_toNextToken 16 rfl) (by decide) (fun c37 => ?_) (fun c37 => ?_)
        · replace hF := if_f c37 hF
          exact J3 hF _ _ _ hw (lv_sub hl [0] rfl)
        · replace hF := if_t c37 hF
          refine lv_aload_n hx hb (dq dt_X4_toNextToken 17 rfl) rfl (lv_at hl 0 rfl) ?_
          refine lv_dup hx hb (dq dt_X4_toNextToken 18 rfl) rfl ?_
          refine kGet (ci := 4) C in_X4 hw 2 rfl rfl 3 (by decide) (C.2.2.2.2.2.2.1 _ q1_179) rfl rfl (dq dt_X4_toNextToken 19 rfl) ?_
          refine lv_iconst (v := (1 : Int32)) hx hb (dq dt_X4_toNextToken 20 rfl) (by decide) ?_
          refine lv_iadd hx hb (dq dt_X4_toNextToken 21 rfl) ?_
          obtain ⟨v38, ev38, hF⟩ := bd_ hF
          refine kNmI ev38 ?_
          refine kPut (ci := 4) (ws' := [(a_x, .inr (6, [.ref a_x_signs, .int x_length])), (a_x_signs, .inl (cB, 200, .inl x_signs)), (a_r, .inr (4, [.ref a_x, .ref a_g, .int r_sort, .int v38, .int r_end, .int r_lines]))]) C in_X4 tyX4 tyX4_ok nmX4 hw 2 rfl rfl 3 (by decide) (C.2.2.2.2.2.2.1 _ q1_179) rfl rfl rfl rfl (Nat.le_of_ble_eq_true rfl) rfl (dq dt_X4_toNextToken 22 rfl) (fun H locs hw => ?_)
          refine lv_goto (tgt := 8) hx hb (dq dt_X4_toNextToken 23 rfl) (by decide) ?_
          exact ih2 v38 hF _ _ _ hw (lv_sub hl [0] rfl)
  exact L2 _ r_end hF _ _ _ hw (lv_sub hl [0] rfl)
def F_X4_readNumber (x_length : Int32) (x_signs : Nat → Int32) (r_sort : Int32) (r_begin : Int32) (r_end : Int32) (p1 : Int32) (p2 : Int32) : Option (Int32 × Int32 × Int32 × Int32) :=
  zc3 (F_X4_toNextToken x_length x_signs r_sort r_begin r_end) (fun g1 g2 g3 => if g1 = (2 : Int32) then (if (g3 - g2) ≤ (2 : Int32) then (zl2 (fun x7 x8 ag9 => if g3 ≤ x8 then (zc1 (F_X8_isWithin x7 p1 p2) (fun v11 => if v11 = 0 then (some ((-1 : Int32), g1, g2, g3)) else (some (x7, g1, g2, g3)))) else (zc1 (F_X6_signAt x_length x_signs x8) (fun v14 => bd (((x7 * (10 : Int32)) + v14) - (48 : Int32)) (fun v16 => bd (x8 + (1 : Int32)) (fun v17 => ag9 v16 v17))))) FU (0 : Int32) g2) else (some ((-1 : Int32), g1, g2, g3))) else (some ((-1 : Int32), g1, g2, g3)))
abbrev rm_X4_readNumber : Room := { frames := 2, cells := 0, slots := 0, locals := 42 }
theorem kd_X4_readNumber : yX4_readNumber.cls = RX4 ∧ yX4_readNumber.cls ≠ "java/lang/invoke/MethodHandle" ∧ yX4_readNumber.cls ≠ "java/lang/invoke/VarHandle" ∧ (parseMethodDescriptor yX4_readNumber.desc).map (fun d => d.parameters.length) = some 2 := by decide +kernel
set_option maxRecDepth 100000 in
set_option maxHeartbeats 4000000 in
theorem A_X4_readNumber (l : Launch) (D : va_G) (cB cI cJ cZ : ClassId) (ad : (Nat → Nat) × (Nat → Nat)) (a_x a_x_signs a_r a_g : Nat) (x_length : Int32) (x_signs : Nat → Int32) (r_sort : Int32) (r_begin : Int32) (r_end : Int32) (r_lines : Int32) (p1 : Int32) (p2 : Int32) (r : Int32) (r_sort' : Int32) (r_begin' : Int32) (r_end' : Int32) (hF : F_X4_readNumber x_length x_signs r_sort r_begin r_end p1 p2 = some (r, r_sort', r_begin', r_end')) : kM l yX4_readNumber (Cond.code yX4_readNumber cX4_readNumber 5 (some .int) :: W0) rm_X4_readNumber D (kT cB cI cJ cZ) ad [.ref a_r, .int p1, .int p2] [(a_x, .inr (6, [.ref a_x_signs, .int x_length])), (a_x_signs, .inl (cB, 200, .inl x_signs)), (a_r, .inr (4, [.ref a_x, .ref a_g, .int r_sort, .int r_begin, .int r_end, .int r_lines]))] (some (.int r)) [(a_x, .inr (6, [.ref a_x_signs, .int x_length])), (a_x_signs, .inl (cB, 200, .inl x_signs)), (a_r, .inr (4, [.ref a_x, .ref a_g, .int (r_sort'), .int (r_begin'), .int (r_end'), .int r_lines]))] := by
  unfold F_X4_readNumber at hF
  refine kStart (lv := [(0, .ref a_r), (1, .int p1), (2, .int p2)]) (own := "DikeWatch$Reader") (plainFor_of_name (by decide)) rfl (Nat.le_of_ble_eq_true rfl) rfl ?_
  intro p e s m args below meth c A Q ls hQ C hx hb hw hl
  refine lv_aload_n hx hb (dq dt_X4_readNumber 0 rfl) rfl (lv_at hl 0 rfl) ?_
  obtain ⟨g1, g2, g3, hr4, hF⟩ := zc3_ hF
  refine kCallV (ws2 := [(a_x, .inr (6, [.ref a_x_signs, .int x_length])), (a_x_signs, .inl (cB, 200, .inl x_signs)), (a_r, .inr (4, [.ref a_x, .ref a_g, .int g1, .int g2, .int g3, .int r_lines]))]) C hw (A_X4_toNextToken l D cB cI cJ cZ ad a_x a_x_signs a_r a_g x_length x_signs r_sort r_begin r_end r_lines g1 g2 g3 hr4) (cwV 0 C.2.2.2.2.2.2.1 (w0_V0 q2_100 q2_97 q2_99 (ws0 1 rfl) q1_6) rfl rfl rfl kd_X4_toNextToken ⟨Nat.le_of_ble_eq_true rfl, Nat.le_of_ble_eq_true rfl⟩) [0, 1, 2] rfl rfl rfl rfl 2 4 rfl rfl hl.1 rfl rfl rfl (Nat.le_of_ble_eq_true rfl) ⟨Nat.le_of_ble_eq_true rfl, Nat.le_of_ble_eq_true rfl⟩ (dq dt_X4_readNumber 1 rfl) (fun H locs hw => ?_)
  refine lv_aload_n hx hb (dq dt_X4_readNumber 2 rfl) rfl (lv_at hl 0 rfl) ?_
  refine kGet (ci := 4) C in_X4 hw 2 rfl rfl 2 (by decide) (C.2.2.2.2.2.2.1 _ q1_178) rfl rfl (dq dt_X4_readNumber 3 rfl) ?_
  refine lv_iconst (v := (2 : Int32)) hx hb (dq dt_X4_readNumber 4 rfl) (by decide) ?_
  refine lv_icmp_ne (tgt := 25) hx hb (dq dt_X4_readNumber 5 rfl) (by decide) (fun c5 => ?_) (fun c5 => ?_)
  · replace hF := if_f c5 hF
    refine lv_iconst (v := (-1 : Int32)) hx hb (dq dt_X4_readNumber 13 rfl) (by decide) ?_
    cases hF
    exact kRetI hQ C hw (dq dt_X4_readNumber 14 rfl)
  · replace hF := if_t c5 hF
    refine lv_aload_n hx hb (dq dt_X4_readNumber 6 rfl) rfl (lv_at hl 0 rfl) ?_
    refine kGet (ci := 4) C in_X4 hw 2 rfl rfl 4 (by decide) (C.2.2.2.2.2.2.1 _ q1_180) rfl rfl (dq dt_X4_readNumber 7 rfl) ?_
    refine lv_aload_n hx hb (dq dt_X4_readNumber 8 rfl) rfl (lv_at hl 0 rfl) ?_
    refine kGet (ci := 4) C in_X4 hw 2 rfl rfl 3 (by decide) (C.2.2.2.2.2.2.1 _ q1_179) rfl rfl (dq dt_X4_readNumber 9 rfl) ?_
    refine lv_isub hx hb (dq dt_X4_readNumber 10 rfl) ?_
    refine lv_iconst (v := (2 : Int32)) hx hb (dq dt_X4_readNumber 11 rfl) (by decide) ?_
    refine lv_icmp_le (tgt := 27) hx hb (dq dt_X4_readNumber 12 rfl) (by decide) (fun c6 => ?_) (fun c6 => ?_)
    · replace hF := if_t c6 hF
      refine lv_iconst (v := (0 : Int32)) hx hb (dq dt_X4_readNumber 15 rfl) (by decide) ?_
      refine lv_istore_n (lv' := [(3, .int (0 : Int32)), (0, .ref a_r), (1, .int p1), (2, .int p2)]) hx hb (dq dt_X4_readNumber 16 rfl) rfl hl (by decide) rfl (fun ls hl => ?_)
      refine lv_aload_n hx hb (dq dt_X4_readNumber 17 rfl) rfl (lv_at hl 1 rfl) ?_
      refine kGet (ci := 4) C in_X4 hw 2 rfl rfl 3 (by decide) (C.2.2.2.2.2.2.1 _ q1_179) rfl rfl (dq dt_X4_readNumber 18 rfl) ?_
      refine lv_istore (lv' := [(4, .int g2), (3, .int (0 : Int32)), (0, .ref a_r), (1, .int p1), (2, .int p2)]) hx hb (dq dt_X4_readNumber 19 rfl) hl (by decide) rfl (fun ls hl => ?_)
      obtain ⟨K9, hK09, hK9, hF⟩ := zl2_ hF
      have L9 : ∀ (n : Nat) (x7 : Int32) (x8 : Int32), K9 n x7 x8 = some (r, r_sort', r_begin', r_end') → ∀ (H : Heap) (locs : List Loc) (ls : Array Slot), kW D A s.heap [(a_x, .inr (6, [.ref a_x_signs, .int x_length])), (a_x_signs, .inl (cB, 200, .inl x_signs)), (a_r, .inr (4, [.ref a_x, .ref a_g, .int g1, .int g2, .int g3, .int r_lines]))] H locs → lv_has ls 5 [(0, .ref a_r), (1, .int p1), (2, .int p2), (3, .int x7), (4, .int x8)] → W p l e rm_X4_readNumber s m args below meth c H locs 0 0 Q (F0 m 35 ls []) := by
        intro n
        induction n with
        | zero => intro x7 x8 hF; exact (lp_no (hK09 x7 x8) hF).elim
        | succ n ih9 =>
          intro x7 x8 hF H locs ls hw hl
          replace hF := hK9 n x7 x8 hF
          refine lv_iload hx hb (dq dt_X4_readNumber 20 rfl) (lv_at hl 4 rfl) ?_
          refine lv_aload_n hx hb (dq dt_X4_readNumber 21 rfl) rfl (lv_at hl 0 rfl) ?_
          refine kGet (ci := 4) C in_X4 hw 2 rfl rfl 4 (by decide) (C.2.2.2.2.2.2.1 _ q1_180) rfl rfl (dq dt_X4_readNumber 22 rfl) ?_
          refine lv_icmp_ge (tgt := 68) hx hb (dq dt_X4_readNumber 23 rfl) (by decide) (fun c10 => ?_) (fun c10 => ?_)
          · replace hF := if_t c10 hF
            refine lv_iload_n hx hb (dq dt_X4_readNumber 37 rfl) rfl (lv_at hl 3 rfl) ?_
            refine lv_iload_n hx hb (dq dt_X4_readNumber 38 rfl) rfl (lv_at hl 1 rfl) ?_
            refine lv_iload_n hx hb (dq dt_X4_readNumber 39 rfl) rfl (lv_at hl 2 rfl) ?_
            obtain ⟨v11, hr12, hF⟩ := zc1_ hF
            refine kCallSN C hw (A_X8_isWithin l D cB cI cJ cZ ad x7 p1 p2 v11 hr12) ⟨va_cnB 3 C.2.2.2.2.2.2.1 (w0_all0 q2_65) rfl rfl rfl (C.2.2.2.2.2.2.2.2.1.1 _ (List.mem_of_getElem? (i := 4) rfl)) (C.2.2.2.2.2.2.1 _ q1_1) ke_X8_isWithin ⟨Nat.le_of_ble_eq_true rfl, Nat.le_of_ble_eq_true rfl⟩, (C.2.2.2.2.2.2.1 _ q2_64), trivial⟩ hl.1 rfl rfl rfl (Nat.le_of_ble_eq_true rfl) ⟨Nat.le_of_ble_eq_true rfl, Nat.le_of_ble_eq_true rfl⟩ (dq dt_X4_readNumber 40 rfl) (fun H locs hw => ?_)
            refine lv_if_eq (tgt := 81) hx hb (dq dt_X4_readNumber 41 rfl) (by decide) (fun c13 => ?_) (fun c13 => ?_)
            · replace hF := if_t c13 hF
              refine lv_iconst (v := (-1 : Int32)) hx hb (dq dt_X4_readNumber 44 rfl) (by decide) ?_
              cases hF
              exact kRetI hQ C hw (dq dt_X4_readNumber 45 rfl)
            · replace hF := if_f c13 hF
              refine lv_iload_n hx hb (dq dt_X4_readNumber 42 rfl) rfl (lv_at hl 3 rfl) ?_
              refine lv_goto (tgt := 82) hx hb (dq dt_X4_readNumber 43 rfl) (by decide) ?_
              cases hF
              exact kRetI hQ C hw (dq dt_X4_readNumber 45 rfl)
          · replace hF := if_f c10 hF
            refine lv_iload_n hx hb (dq dt_X4_readNumber 24 rfl) rfl (lv_at hl 3 rfl) ?_
            refine lv_bipush (v := (10 : Int32)) hx hb (dq dt_X4_readNumber 25 rfl) (by decide) ?_
            refine lv_imul hx hb (dq dt_X4_readNumber 26 rfl) ?_
            refine lv_aload_n hx hb (dq dt_X4_readNumber 27 rfl) rfl (lv_at hl 0 rfl) ?_
            refine kGet (ci := 4) C in_X4 hw 2 rfl rfl 0 (by decide) (C.2.2.2.2.2.2.1 _ q1_176) rfl rfl (dq dt_X4_readNumber 28 rfl) ?_
            refine lv_iload hx hb (dq dt_X4_readNumber 29 rfl) (lv_at hl 4 rfl) ?_
            obtain ⟨v14, hr15, hF⟩ := zc1_ hF
            refine kCallVR C hw (A_X6_signAt l D cB cI cJ cZ ad a_x a_x_signs x_length x_signs x8 v14 hr15) (cwV 1 C.2.2.2.2.2.2.1 (w0_V0 q2_104 q2_101 q2_102 q2_103 q1_2) rfl rfl rfl kd_X6_signAt ⟨Nat.le_of_ble_eq_true rfl, Nat.le_of_ble_eq_true rfl⟩) [0, 1] rfl rfl 0 6 rfl rfl hl.1 rfl rfl rfl (Nat.le_of_ble_eq_true rfl) ⟨Nat.le_of_ble_eq_true rfl, Nat.le_of_ble_eq_true rfl⟩ (dq dt_X4_readNumber 30 rfl) (fun H locs hw => ?_)
            refine lv_iadd hx hb (dq dt_X4_readNumber 31 rfl) ?_
            refine lv_bipush (v := (48 : Int32)) hx hb (dq dt_X4_readNumber 32 rfl) (by decide) ?_
            refine lv_isub hx hb (dq dt_X4_readNumber 33 rfl) ?_
            obtain ⟨v16, ev16, hF⟩ := bd_ hF
            refine kNmI ev16 ?_
            refine lv_istore_n (lv' := [(3, .int v16), (0, .ref a_r), (1, .int p1), (2, .int p2), (4, .int x8)]) hx hb (dq dt_X4_readNumber 34 rfl) rfl hl (by decide) rfl (fun ls hl => ?_)
            obtain ⟨v17, ev17, hF⟩ := bd_ hF
            refine lv_iinc (v := v17) (lv' := [(4, .int v17), (3, .int v16), (0, .ref a_r), (1, .int p1), (2, .int p2)]) hx hb (dq dt_X4_readNumber 35 rfl) hl (k := 4) rfl ev17.symm (by decide) rfl (fun ls hl => ?_)
            refine lv_goto (tgt := 35) hx hb (dq dt_X4_readNumber 36 rfl) (by decide) ?_
            exact ih9 v16 v17 hF _ _ _ hw (lv_sub hl [2, 3, 4, 1, 0] rfl)
      exact L9 _ (0 : Int32) g2 hF _ _ _ hw (lv_sub hl [2, 3, 4, 1, 0] rfl)
    · replace hF := if_f c6 hF
      refine lv_iconst (v := (-1 : Int32)) hx hb (dq dt_X4_readNumber 13 rfl) (by decide) ?_
      cases hF
      exact kRetI hQ C hw (dq dt_X4_readNumber 14 rfl)
def F_J7_fill_53178 (arr : Nat → Int32) (N : Nat) (p2 : Int32) : Option ((Nat → Int32)) :=
  bd (Int32.ofNat N) (fun v1 => zl2 (fun x2 h3 ag4 => if v1 ≤ x2 then (some h3) else (wr N x2 (upd h3 (x2).toNatClampNeg p2) (fun g6 => bd (x2 + (1 : Int32)) (fun v8 => ag4 v8 g6)))) FU (0 : Int32) arr)
abbrev rm_J7_fill_53178 : Room := { frames := 0, cells := 0, slots := 0, locals := 0 }
theorem ke_J7_fill_53178 : yJ7_fill_53178.cls ≠ "java/lang/invoke/MethodHandle" ∧ yJ7_fill_53178.cls ≠ "java/lang/invoke/VarHandle" ∧ (parseMethodDescriptor yJ7_fill_53178.desc).map (fun d => d.parameters.length) = some 2 := by decide +kernel
set_option maxRecDepth 100000 in
set_option maxHeartbeats 4000000 in
theorem A_J7_fill_53178 (l : Launch) (D : va_G) (cB cI cJ cZ : ClassId) (ad : (Nat → Nat) × (Nat → Nat)) (a_P : Nat) (arr : Nat → Int32) (N : Nat) (p2 : Int32) (arr' : Nat → Int32) (hF : F_J7_fill_53178 arr N p2 = some arr') : kM l yJ7_fill_53178 (Cond.code yJ7_fill_53178 cJ7_fill_53178 4 (none) :: W0) rm_J7_fill_53178 D (kT cB cI cJ cZ) ad [.ref a_P, .int p2] [(a_P, .inl (cI, N, .inl arr))] none [(a_P, .inl (cI, N, .inl arr'))] := by
  unfold F_J7_fill_53178 at hF
  refine kStart (lv := [(0, .ref a_P), (1, .int p2)]) (own := "java/util/Arrays") (by decide +kernel) rfl (Nat.le_of_ble_eq_true rfl) rfl ?_
  intro p e s m args below meth c A Q ls hQ C hx hb hw hl
  refine lv_iconst (v := (0 : Int32)) hx hb (dq dt_J7_fill_53178 0 rfl) (by decide) ?_
  refine lv_istore_n (lv' := [(2, .int (0 : Int32)), (0, .ref a_P), (1, .int p2)]) hx hb (dq dt_J7_fill_53178 1 rfl) rfl hl (by decide) rfl (fun ls hl => ?_)
  refine lv_aload_n hx hb (dq dt_J7_fill_53178 2 rfl) rfl (lv_at hl 1 rfl) ?_
  refine kAlen C hw 0 1 rfl rfl rfl (dq dt_J7_fill_53178 3 rfl) ?_
  obtain ⟨v1, ev1, hF⟩ := bd_ hF
  refine kNmI ev1 ?_
  refine lv_istore_n (lv' := [(3, .int v1), (2, .int (0 : Int32)), (0, .ref a_P), (1, .int p2)]) hx hb (dq dt_J7_fill_53178 4 rfl) rfl hl (by decide) rfl (fun ls hl => ?_)
  obtain ⟨K4, hK04, hK4, hF⟩ := zl2_ hF
  have L4 : ∀ (n : Nat) (x2 : Int32) (h3 : Nat → Int32), K4 n x2 h3 = some arr' → ∀ (H : Heap) (locs : List Loc) (ls : Array Slot), kW D A s.heap [(a_P, .inl (cI, N, .inl h3))] H locs → lv_has ls 4 [(0, .ref a_P), (1, .int p2), (2, .int x2), (3, .int v1)] → W p l e rm_J7_fill_53178 s m args below meth c H locs 0 0 Q (F0 m 5 ls []) := by
    intro n
    induction n with
    | zero => intro x2 h3 hF; exact (lp_no (hK04 x2 h3) hF).elim
    | succ n ih4 =>
      intro x2 h3 hF H locs ls hw hl
      replace hF := hK4 n x2 h3 hF
      refine lv_iload_n hx hb (dq dt_J7_fill_53178 5 rfl) rfl (lv_at hl 2 rfl) ?_
      refine lv_iload_n hx hb (dq dt_J7_fill_53178 6 rfl) rfl (lv_at hl 3 rfl) ?_
      refine lv_icmp_ge (tgt := 20) hx hb (dq dt_J7_fill_53178 7 rfl) (by decide) (fun c5 => ?_) (fun c5 => ?_)
      · replace hF := if_t c5 hF
        cases hF
        exact kRetV hQ C hw (dq dt_J7_fill_53178 14 rfl)
      · replace hF := if_f c5 hF
        refine lv_aload_n hx hb (dq dt_J7_fill_53178 8 rfl) rfl (lv_at hl 0 rfl) ?_
        refine lv_iload_n hx hb (dq dt_J7_fill_53178 9 rfl) rfl (lv_at hl 2 rfl) ?_
        refine lv_iload_n hx hb (dq dt_J7_fill_53178 10 rfl) rfl (lv_at hl 1 rfl) ?_
        obtain ⟨g6, eg6, hi7, hF⟩ := wr_ hF
        refine kIast (ws' := [(a_P, .inl (cI, N, .inl g6))]) C hw 0 1 rfl rfl hi7 eg6 rfl (dq dt_J7_fill_53178 11 rfl) (fun H locs hw => ?_)
        obtain ⟨v8, ev8, hF⟩ := bd_ hF
        refine lv_iinc (v := v8) (lv' := [(2, .int v8), (0, .ref a_P), (1, .int p2), (3, .int v1)]) hx hb (dq dt_J7_fill_53178 12 rfl) hl (k := 2) rfl ev8.symm (by decide) rfl (fun ls hl => ?_)
        refine lv_goto (tgt := 5) hx hb (dq dt_J7_fill_53178 13 rfl) (by decide) ?_
        exact ih4 v8 g6 hF _ _ _ hw (lv_sub hl [1, 2, 0, 3] rfl)
  exact L4 _ (0 : Int32) arr hF _ _ _ hw (lv_sub hl [2, 3, 1, 0] rfl)
def F_X7_startAnew (t_yards : Int32) (t_seeps : Int32) (t_children : Int32) (t_tides : Nat → Int32) (p1 : Int32) : Option (Int32 × Int32 × Int32 × (Nat → Int32)) :=
  zc1 (F_J7_fill_53178 t_tides 12 (0 : Int32)) (fun g1 => some (p1, (0 : Int32), (0 : Int32), g1))
abbrev rm_X7_startAnew : Room := { frames := 1, cells := 0, slots := 0, locals := 23 }
theorem kd_X7_startAnew : yX7_startAnew.cls = RX7 ∧ yX7_startAnew.cls ≠ "java/lang/invoke/MethodHandle" ∧ yX7_startAnew.cls ≠ "java/lang/invoke/VarHandle" ∧ (parseMethodDescriptor yX7_startAnew.desc).map (fun d => d.parameters.length) = some 1 := by decide +kernel
set_option maxRecDepth 100000 in
set_option maxHeartbeats 4000000 in
theorem A_X7_startAnew (l : Launch) (D : va_G) (cB cI cJ cZ : ClassId) (ad : (Nat → Nat) × (Nat → Nat)) (a_t a_t_tides a_t_seepYard a_t_seepSize a_t_growth a_t_level a_t_kind a_t_childYard a_t_pace a_t_ear : Nat) (t_yards : Int32) (t_seeps : Int32) (t_children : Int32) (t_tides : Nat → Int32) (p1 : Int32) (t_yards' : Int32) (t_seeps' : Int32) (t_children' : Int32) (t_tides' : Nat → Int32) (hF : F_X7_startAnew t_yards t_seeps t_children t_tides p1 = some (t_yards', t_seeps', t_children', t_tides')) : kM l yX7_startAnew (Cond.code yX7_startAnew cX7_startAnew 2 (none) :: W0) rm_X7_startAnew D (kT cB cI cJ cZ) ad [.ref a_t, .int p1] [(a_t, .inr (7, [.int t_yards, .ref a_t_tides, .int t_seeps, .ref a_t_seepYard, .ref a_t_seepSize, .ref a_t_growth, .ref a_t_level, .int t_children, .ref a_t_kind, .ref a_t_childYard, .ref a_t_pace, .ref a_t_ear])), (a_t_tides, .inl (cI, 12, .inl t_tides))] none [(a_t, .inr (7, [.int (t_yards'), .ref a_t_tides, .int (t_seeps'), .ref a_t_seepYard, .ref a_t_seepSize, .ref a_t_growth, .ref a_t_level, .int (t_children'), .ref a_t_kind, .ref a_t_childYard, .ref a_t_pace, .ref a_t_ear])), (a_t_tides, .inl (cI, 12, .inl (t_tides')))] := by
  unfold F_X7_startAnew at hF
  refine kStart (lv := [(0, .ref a_t), (1, .int p1)]) (own := "DikeWatch$Told") (plainFor_of_name (by decide)) rfl (Nat.le_of_ble_eq_true rfl) rfl ?_
  intro p e s m args below meth c A Q ls hQ C hx hb hw hl
  refine lv_aload_n hx hb (dq dt_X7_startAnew 0 rfl) rfl (lv_at hl 0 rfl) ?_
  refine lv_iload_n hx hb (dq dt_X7_startAnew 1 rfl) rfl (lv_at hl 1 rfl) ?_
  refine kPut (ci := 7) (ws' := [(a_t, .inr (7, [.int p1, .ref a_t_tides, .int t_seeps, .ref a_t_seepYard, .ref a_t_seepSize, .ref a_t_growth, .ref a_t_level, .int t_children, .ref a_t_kind, .ref a_t_childYard, .ref a_t_pace, .ref a_t_ear])), (a_t_tides, .inl (cI, 12, .inl t_tides))]) C in_X7 tyX7 tyX7_ok nmX7 hw 0 rfl rfl 0 (by decide) (C.2.2.2.2.2.2.1 _ q1_49) rfl rfl rfl rfl (Nat.le_of_ble_eq_true rfl) rfl (dq dt_X7_startAnew 2 rfl) (fun H locs hw => ?_)
  refine lv_aload_n hx hb (dq dt_X7_startAnew 3 rfl) rfl (lv_at hl 0 rfl) ?_
  refine kGet (ci := 7) C in_X7 hw 0 rfl rfl 1 (by decide) (C.2.2.2.2.2.2.1 _ q1_54) rfl rfl (dq dt_X7_startAnew 4 rfl) ?_
  refine lv_iconst (v := (0 : Int32)) hx hb (dq dt_X7_startAnew 5 rfl) (by decide) ?_
  obtain ⟨g1, hr2, hF⟩ := zc1_ hF
  refine kCallS (ws2 := [(a_t, .inr (7, [.int p1, .ref a_t_tides, .int t_seeps, .ref a_t_seepYard, .ref a_t_seepSize, .ref a_t_growth, .ref a_t_level, .int t_children, .ref a_t_kind, .ref a_t_childYard, .ref a_t_pace, .ref a_t_ear])), (a_t_tides, .inl (cI, 12, .inl g1))]) C hw (A_J7_fill_53178 l D cB cI cJ cZ ad a_t_tides t_tides 12 (0 : Int32) g1 hr2) (va_cwS 2 C.2.2.2.2.2.2.1 (w0_S0 q2_176 q2_174 q2_175 q1_16) rfl rfl rfl ke_J7_fill_53178 ⟨Nat.le_of_ble_eq_true rfl, Nat.le_of_ble_eq_true rfl⟩) [1] rfl rfl rfl rfl hl.1 rfl rfl rfl (Nat.le_of_ble_eq_true rfl) ⟨Nat.le_of_ble_eq_true rfl, Nat.le_of_ble_eq_true rfl⟩ (dq dt_X7_startAnew 6 rfl) (fun H locs hw => ?_)
  refine lv_aload_n hx hb (dq dt_X7_startAnew 7 rfl) rfl (lv_at hl 0 rfl) ?_
  refine lv_iconst (v := (0 : Int32)) hx hb (dq dt_X7_startAnew 8 rfl) (by decide) ?_
  refine kPut (ci := 7) (ws' := [(a_t, .inr (7, [.int p1, .ref a_t_tides, .int (0 : Int32), .ref a_t_seepYard, .ref a_t_seepSize, .ref a_t_growth, .ref a_t_level, .int t_children, .ref a_t_kind, .ref a_t_childYard, .ref a_t_pace, .ref a_t_ear])), (a_t_tides, .inl (cI, 12, .inl g1))]) C in_X7 tyX7 tyX7_ok nmX7 hw 0 rfl rfl 2 (by decide) (C.2.2.2.2.2.2.1 _ q1_56) rfl rfl rfl rfl (Nat.le_of_ble_eq_true rfl) rfl (dq dt_X7_startAnew 9 rfl) (fun H locs hw => ?_)
  refine lv_aload_n hx hb (dq dt_X7_startAnew 10 rfl) rfl (lv_at hl 0 rfl) ?_
  refine lv_iconst (v := (0 : Int32)) hx hb (dq dt_X7_startAnew 11 rfl) (by decide) ?_
  refine kPut (ci := 7) (ws' := [(a_t, .inr (7, [.int p1, .ref a_t_tides, .int (0 : Int32), .ref a_t_seepYard, .ref a_t_seepSize, .ref a_t_growth, .ref a_t_level, .int (0 : Int32), .ref a_t_kind, .ref a_t_childYard, .ref a_t_pace, .ref a_t_ear])), (a_t_tides, .inl (cI, 12, .inl g1))]) C in_X7 tyX7 tyX7_ok nmX7 hw 0 rfl rfl 7 (by decide) (C.2.2.2.2.2.2.1 _ q1_72) rfl rfl rfl rfl (Nat.le_of_ble_eq_true rfl) rfl (dq dt_X7_startAnew 12 rfl) (fun H locs hw => ?_)
  cases hF
  exact kRetV hQ C hw (dq dt_X7_startAnew 13 rfl)
def F_X4_readDike (x_length : Int32) (x_signs : Nat → Int32) (g_yards : Int32) (g_seeps : Int32) (g_children : Int32) (g_tides : Nat → Int32) (r_sort : Int32) (r_begin : Int32) (r_end : Int32) : Option (Int32 × Int32 × Int32 × Int32 × (Nat → Int32) × Int32 × Int32 × Int32) :=
  zc4 (F_X4_readNumber x_length x_signs r_sort r_begin r_end (4 : Int32) (24 : Int32)) (fun v1 g2 g3 g4 => if v1 = (-1 : Int32) then (some ((0 : Int32), g_yards, g_seeps, g_children, g_tides, g2, g3, g4)) else (zc4 (F_X7_startAnew g_yards g_seeps g_children g_tides v1) (fun g7 g8 g9 g10 => some ((1 : Int32), g7, g8, g9, g10, g2, g3, g4))))
abbrev rm_X4_readDike : Room := { frames := 3, cells := 0, slots := 0, locals := 66 }
theorem kd_X4_readDike : yX4_readDike.cls = RX4 ∧ yX4_readDike.cls ≠ "java/lang/invoke/MethodHandle" ∧ yX4_readDike.cls ≠ "java/lang/invoke/VarHandle" ∧ (parseMethodDescriptor yX4_readDike.desc).map (fun d => d.parameters.length) = some 0 := by decide +kernel
set_option maxRecDepth 100000 in
set_option maxHeartbeats 4000000 in
theorem A_X4_readDike (l : Launch) (D : va_G) (cB cI cJ cZ : ClassId) (ad : (Nat → Nat) × (Nat → Nat)) (a_x a_x_signs a_g a_g_tides a_g_seepYard a_g_seepSize a_g_growth a_g_level a_g_kind a_g_childYard a_g_pace a_g_ear a_r : Nat) (x_length : Int32) (x_signs : Nat → Int32) (g_yards : Int32) (g_seeps : Int32) (g_children : Int32) (g_tides : Nat → Int32) (r_sort : Int32) (r_begin : Int32) (r_end : Int32) (r_lines : Int32) (r : Int32) (g_yards' : Int32) (g_seeps' : Int32) (g_children' : Int32) (g_tides' : Nat → Int32) (r_sort' : Int32) (r_begin' : Int32) (r_end' : Int32) (hF : F_X4_readDike x_length x_signs g_yards g_seeps g_children g_tides r_sort r_begin r_end = some (r, g_yards', g_seeps', g_children', g_tides', r_sort', r_begin', r_end')) : kM l yX4_readDike (Cond.code yX4_readDike cX4_readDike 2 (some .boolean) :: W0) rm_X4_readDike D (kT cB cI cJ cZ) ad [.ref a_r] [(a_x, .inr (6, [.ref a_x_signs, .int x_length])), (a_x_signs, .inl (cB, 200, .inl x_signs)), (a_g, .inr (7, [.int g_yards, .ref a_g_tides, .int g_seeps, .ref a_g_seepYard, .ref a_g_seepSize, .ref a_g_growth, .ref a_g_level, .int g_children, .ref a_g_kind, .ref a_g_childYard, .ref a_g_pace, .ref a_g_ear])), (a_g_tides, .inl (cI, 12, .inl g_tides)), (a_r, .inr (4, [.ref a_x, .ref a_g, .int r_sort, .int r_begin, .int r_end, .int r_lines]))] (some (.int r)) [(a_x, .inr (6, [.ref a_x_signs, .int x_length])), (a_x_signs, .inl (cB, 200, .inl x_signs)), (a_g, .inr (7, [.int (g_yards'), .ref a_g_tides, .int (g_seeps'), .ref a_g_seepYard, .ref a_g_seepSize, .ref a_g_growth, .ref a_g_level, .int (g_children'), .ref a_g_kind, .ref a_g_childYard, .ref a_g_pace, .ref a_g_ear])), (a_g_tides, .inl (cI, 12, .inl (g_tides'))), (a_r, .inr (4, [.ref a_x, .ref a_g, .int (r_sort'), .int (r_begin'), .int (r_end'), .int r_lines]))] := by
  unfold F_X4_readDike at hF
  refine kStart (lv := [(0, .ref a_r)]) (own := "DikeWatch$Reader") (plainFor_of_name (by decide)) rfl (Nat.le_of_ble_eq_true rfl) rfl ?_
  intro p e s m args below meth c A Q ls hQ C hx hb hw hl
  refine lv_aload_n hx hb (dq dt_X4_readDike 0 rfl) rfl (lv_at hl 0 rfl) ?_
  refine lv_iconst (v := (4 : Int32)) hx hb (dq dt_X4_readDike 1 rfl) (by decide) ?_
  refine lv_bipush (v := (24 : Int32)) hx hb (dq dt_X4_readDike 2 rfl) (by decide) ?_
  obtain ⟨v1, g2, g3, g4, hr5, hF⟩ := zc4_ hF
  refine kCallV (ws2 := [(a_x, .inr (6, [.ref a_x_signs, .int x_length])), (a_x_signs, .inl (cB, 200, .inl x_signs)), (a_g, .inr (7, [.int g_yards, .ref a_g_tides, .int g_seeps, .ref a_g_seepYard, .ref a_g_seepSize, .ref a_g_growth, .ref a_g_level, .int g_children, .ref a_g_kind, .ref a_g_childYard, .ref a_g_pace, .ref a_g_ear])), (a_g_tides, .inl (cI, 12, .inl g_tides)), (a_r, .inr (4, [.ref a_x, .ref a_g, .int g2, .int g3, .int g4, .int r_lines]))]) C hw (A_X4_readNumber l D cB cI cJ cZ ad a_x a_x_signs a_r a_g x_length x_signs r_sort r_begin r_end r_lines (4 : Int32) (24 : Int32) v1 g2 g3 g4 hr5) (cwV 2 C.2.2.2.2.2.2.1 (w0_V0 q2_168 q2_165 q2_167 (ws0 4 rfl) q1_6) rfl rfl rfl kd_X4_readNumber ⟨Nat.le_of_ble_eq_true rfl, Nat.le_of_ble_eq_true rfl⟩) [0, 1, 4] rfl rfl rfl rfl 4 4 rfl rfl hl.1 rfl rfl rfl (Nat.le_of_ble_eq_true rfl) ⟨Nat.le_of_ble_eq_true rfl, Nat.le_of_ble_eq_true rfl⟩ (dq dt_X4_readDike 3 rfl) (fun H locs hw => ?_)
  refine lv_istore_n (lv' := [(1, .int v1), (0, .ref a_r)]) hx hb (dq dt_X4_readDike 4 rfl) rfl hl (by decide) rfl (fun ls hl => ?_)
  refine lv_iload_n hx hb (dq dt_X4_readDike 5 rfl) rfl (lv_at hl 0 rfl) ?_
  refine lv_iconst (v := (-1 : Int32)) hx hb (dq dt_X4_readDike 6 rfl) (by decide) ?_
  refine lv_icmp_ne (tgt := 15) hx hb (dq dt_X4_readDike 7 rfl) (by decide) (fun c6 => ?_) (fun c6 => ?_)
  · replace hF := if_f c6 hF
    refine lv_aload_n hx hb (dq dt_X4_readDike 10 rfl) rfl (lv_at hl 1 rfl) ?_
    refine kGet (ci := 4) C in_X4 hw 4 rfl rfl 1 (by decide) (C.2.2.2.2.2.2.1 _ q1_177) rfl rfl (dq dt_X4_readDike 11 rfl) ?_
    refine lv_iload_n hx hb (dq dt_X4_readDike 12 rfl) rfl (lv_at hl 0 rfl) ?_
    obtain ⟨g7, g8, g9, g10, hr11, hF⟩ := zc4_ hF
    refine kCallV (ws2 := [(a_x, .inr (6, [.ref a_x_signs, .int x_length])), (a_x_signs, .inl (cB, 200, .inl x_signs)), (a_g, .inr (7, [.int g7, .ref a_g_tides, .int g8, .ref a_g_seepYard, .ref a_g_seepSize, .ref a_g_growth, .ref a_g_level, .int g9, .ref a_g_kind, .ref a_g_childYard, .ref a_g_pace, .ref a_g_ear])), (a_g_tides, .inl (cI, 12, .inl g10)), (a_r, .inr (4, [.ref a_x, .ref a_g, .int g2, .int g3, .int g4, .int r_lines]))]) C hw (A_X7_startAnew l D cB cI cJ cZ ad a_g a_g_tides a_g_seepYard a_g_seepSize a_g_growth a_g_level a_g_kind a_g_childYard a_g_pace a_g_ear g_yards g_seeps g_children g_tides v1 g7 g8 g9 g10 hr11) (cwV 1 C.2.2.2.2.2.2.1 (w0_V0 q2_173 q2_170 q2_171 q2_172 q1_3) rfl rfl rfl kd_X7_startAnew ⟨Nat.le_of_ble_eq_true rfl, Nat.le_of_ble_eq_true rfl⟩) [2, 3] rfl rfl rfl rfl 2 7 rfl rfl hl.1 rfl rfl rfl (Nat.le_of_ble_eq_true rfl) ⟨Nat.le_of_ble_eq_true rfl, Nat.le_of_ble_eq_true rfl⟩ (dq dt_X4_readDike 13 rfl) (fun H locs hw => ?_)
    refine lv_iconst (v := (1 : Int32)) hx hb (dq dt_X4_readDike 14 rfl) (by decide) ?_
    cases hF
    exact kRetZ hQ C rfl hw (dq dt_X4_readDike 15 rfl)
  · replace hF := if_t c6 hF
    refine lv_iconst (v := (0 : Int32)) hx hb (dq dt_X4_readDike 8 rfl) (by decide) ?_
    cases hF
    exact kRetZ hQ C rfl hw (dq dt_X4_readDike 9 rfl)
def F_X4_readTide (x_length : Int32) (x_signs : Nat → Int32) (g_tides : Nat → Int32) (r_sort : Int32) (r_begin : Int32) (r_end : Int32) : Option (Int32 × (Nat → Int32) × Int32 × Int32 × Int32) :=
  zc4 (F_X4_readNumber x_length x_signs r_sort r_begin r_end (0 : Int32) (11 : Int32)) (fun v1 g2 g3 g4 => if v1 < 0 then (some ((0 : Int32), g_tides, g2, g3, g4)) else (if v1 < (12 : Int32) then (zc4 (F_X4_readNumber x_length x_signs g2 g3 g4 (0 : Int32) (9 : Int32)) (fun v8 g9 g10 g11 => if v8 = (-1 : Int32) then (some ((0 : Int32), g_tides, g9, g10, g11)) else (wr 12 v1 (upd g_tides (v1).toNatClampNeg v8) (fun g14 => some ((1 : Int32), g14, g9, g10, g11))))) else (some ((0 : Int32), g_tides, g2, g3, g4))))
abbrev rm_X4_readTide : Room := { frames := 3, cells := 0, slots := 0, locals := 66 }
theorem kd_X4_readTide : yX4_readTide.cls = RX4 ∧ yX4_readTide.cls ≠ "java/lang/invoke/MethodHandle" ∧ yX4_readTide.cls ≠ "java/lang/invoke/VarHandle" ∧ (parseMethodDescriptor yX4_readTide.desc).map (fun d => d.parameters.length) = some 0 := by decide +kernel
set_option maxRecDepth 100000 in
set_option maxHeartbeats 4000000 in
theorem A_X4_readTide (l : Launch) (D : va_G) (cB cI cJ cZ : ClassId) (ad : (Nat → Nat) × (Nat → Nat)) (a_x a_x_signs a_g a_g_tides a_g_seepYard a_g_seepSize a_g_growth a_g_level a_g_kind a_g_childYard a_g_pace a_g_ear a_r : Nat) (x_length : Int32) (x_signs : Nat → Int32) (g_yards : Int32) (g_seeps : Int32) (g_children : Int32) (g_tides : Nat → Int32) (r_sort : Int32) (r_begin : Int32) (r_end : Int32) (r_lines : Int32) (r : Int32) (g_tides' : Nat → Int32) (r_sort' : Int32) (r_begin' : Int32) (r_end' : Int32) (hF : F_X4_readTide x_length x_signs g_tides r_sort r_begin r_end = some (r, g_tides', r_sort', r_begin', r_end')) : kM l yX4_readTide (Cond.code yX4_readTide cX4_readTide 3 (some .boolean) :: W0) rm_X4_readTide D (kT cB cI cJ cZ) ad [.ref a_r] [(a_x, .inr (6, [.ref a_x_signs, .int x_length])), (a_x_signs, .inl (cB, 200, .inl x_signs)), (a_g, .inr (7, [.int g_yards, .ref a_g_tides, .int g_seeps, .ref a_g_seepYard, .ref a_g_seepSize, .ref a_g_growth, .ref a_g_level, .int g_children, .ref a_g_kind, .ref a_g_childYard, .ref a_g_pace, .ref a_g_ear])), (a_g_tides, .inl (cI, 12, .inl g_tides)), (a_r, .inr (4, [.ref a_x, .ref a_g, .int r_sort, .int r_begin, .int r_end, .int r_lines]))] (some (.int r)) [(a_x, .inr (6, [.ref a_x_signs, .int x_length])), (a_x_signs, .inl (cB, 200, .inl x_signs)), (a_g, .inr (7, [.int g_yards, .ref a_g_tides, .int g_seeps, .ref a_g_seepYard, .ref a_g_seepSize, .ref a_g_growth, .ref a_g_level, .int g_children, .ref a_g_kind, .ref a_g_childYard, .ref a_g_pace, .ref a_g_ear])), (a_g_tides, .inl (cI, 12, .inl (g_tides'))), (a_r, .inr (4, [.ref a_x, .ref a_g, .int (r_sort'), .int (r_begin'), .int (r_end'), .int r_lines]))] := by
  unfold F_X4_readTide at hF
  refine kStart (lv := [(0, .ref a_r)]) (own := "DikeWatch$Reader") (plainFor_of_name (by decide)) rfl (Nat.le_of_ble_eq_true rfl) rfl ?_
  intro p e s m args below meth c A Q ls hQ C hx hb hw hl
  refine lv_aload_n hx hb (dq dt_X4_readTide 0 rfl) rfl (lv_at hl 0 rfl) ?_
  refine lv_iconst (v := (0 : Int32)) hx hb (dq dt_X4_readTide 1 rfl) (by decide) ?_
  refine lv_bipush (v := (11 : Int32)) hx hb (dq dt_X4_readTide 2 rfl) (by decide) ?_
  obtain ⟨v1, g2, g3, g4, hr5, hF⟩ := zc4_ hF
  refine kCallV (ws2 := [(a_x, .inr (6, [.ref a_x_signs, .int x_length])), (a_x_signs, .inl (cB, 200, .inl x_signs)), (a_g, .inr (7, [.int g_yards, .ref a_g_tides, .int g_seeps, .ref a_g_seepYard, .ref a_g_seepSize, .ref a_g_growth, .ref a_g_level, .int g_children, .ref a_g_kind, .ref a_g_childYard, .ref a_g_pace, .ref a_g_ear])), (a_g_tides, .inl (cI, 12, .inl g_tides)), (a_r, .inr (4, [.ref a_x, .ref a_g, .int g2, .int g3, .int g4, .int r_lines]))]) C hw (A_X4_readNumber l D cB cI cJ cZ ad a_x a_x_signs a_r a_g x_length x_signs r_sort r_begin r_end r_lines (0 : Int32) (11 : Int32) v1 g2 g3 g4 hr5) (cwV 2 C.2.2.2.2.2.2.1 (w0_V0 q2_168 q2_165 q2_167 (ws0 4 rfl) q1_6) rfl rfl rfl kd_X4_readNumber ⟨Nat.le_of_ble_eq_true rfl, Nat.le_of_ble_eq_true rfl⟩) [0, 1, 4] rfl rfl rfl rfl 4 4 rfl rfl hl.1 rfl rfl rfl (Nat.le_of_ble_eq_true rfl) ⟨Nat.le_of_ble_eq_true rfl, Nat.le_of_ble_eq_true rfl⟩ (dq dt_X4_readTide 3 rfl) (fun H locs hw => ?_)
  refine lv_istore_n (lv' := [(1, .int v1), (0, .ref a_r)]) hx hb (dq dt_X4_readTide 4 rfl) rfl hl (by decide) rfl (fun ls hl => ?_)
  refine lv_iload_n hx hb (dq dt_X4_readTide 5 rfl) rfl (lv_at hl 0 rfl) ?_
  refine lv_if_lt (tgt := 18) hx hb (dq dt_X4_readTide 6 rfl) (by decide) (fun c6 => ?_) (fun c6 => ?_)
  · replace hF := if_t c6 hF
    refine lv_iconst (v := (0 : Int32)) hx hb (dq dt_X4_readTide 10 rfl) (by decide) ?_
    cases hF
    exact kRetZ hQ C rfl hw (dq dt_X4_readTide 11 rfl)
  · replace hF := if_f c6 hF
    refine lv_iload_n hx hb (dq dt_X4_readTide 7 rfl) rfl (lv_at hl 0 rfl) ?_
    refine lv_bipush (v := (12 : Int32)) hx hb (dq dt_X4_readTide 8 rfl) (by decide) ?_
    refine lv_icmp_lt (tgt := 20) hx hb (dq dt_X4_readTide 9 rfl) (by decide) (fun c7 => ?_) (fun c7 => ?_)
    · replace hF := if_t c7 hF
      refine lv_aload_n hx hb (dq dt_X4_readTide 12 rfl) rfl (lv_at hl 1 rfl) ?_
      refine lv_iconst (v := (0 : Int32)) hx hb (dq dt_X4_readTide 13 rfl) (by decide) ?_
      refine lv_bipush (v := (9 : Int32)) hx hb (dq dt_X4_readTide 14 rfl) (by decide) ?_
      obtain ⟨v8, g9, g10, g11, hr12, hF⟩ := zc4_ hF
      refine kCallV (ws2 := [(a_x, .inr (6, [.ref a_x_signs, .int x_length])), (a_x_signs, .inl (cB, 200, .inl x_signs)), (a_g, .inr (7, [.int g_yards, .ref a_g_tides, .int g_seeps, .ref a_g_seepYard, .ref a_g_seepSize, .ref a_g_growth, .ref a_g_level, .int g_children, .ref a_g_kind, .ref a_g_childYard, .ref a_g_pace, .ref a_g_ear])), (a_g_tides, .inl (cI, 12, .inl g_tides)), (a_r, .inr (4, [.ref a_x, .ref a_g, .int g9, .int g10, .int g11, .int r_lines]))]) C hw (A_X4_readNumber l D cB cI cJ cZ ad a_x a_x_signs a_r a_g x_length x_signs g2 g3 g4 r_lines (0 : Int32) (9 : Int32) v8 g9 g10 g11 hr12) (cwV 2 C.2.2.2.2.2.2.1 (w0_V0 q2_168 q2_165 q2_167 (ws0 4 rfl) q1_6) rfl rfl rfl kd_X4_readNumber ⟨Nat.le_of_ble_eq_true rfl, Nat.le_of_ble_eq_true rfl⟩) [0, 1, 4] rfl rfl rfl rfl 4 4 rfl rfl hl.1 rfl rfl rfl (Nat.le_of_ble_eq_true rfl) ⟨Nat.le_of_ble_eq_true rfl, Nat.le_of_ble_eq_true rfl⟩ (dq dt_X4_readTide 15 rfl) (fun H locs hw => ?_)
      refine lv_istore_n (lv' := [(2, .int v8), (1, .int v1), (0, .ref a_r)]) hx hb (dq dt_X4_readTide 16 rfl) rfl hl (by decide) rfl (fun ls hl => ?_)
      refine lv_iload_n hx hb (dq dt_X4_readTide 17 rfl) rfl (lv_at hl 0 rfl) ?_
      refine lv_iconst (v := (-1 : Int32)) hx hb (dq dt_X4_readTide 18 rfl) (by decide) ?_
      refine lv_icmp_ne (tgt := 35) hx hb (dq dt_X4_readTide 19 rfl) (by decide) (fun c13 => ?_) (fun c13 => ?_)
      · replace hF := if_f c13 hF
        refine lv_aload_n hx hb (dq dt_X4_readTide 22 rfl) rfl (lv_at hl 2 rfl) ?_
        refine kGet (ci := 4) C in_X4 hw 4 rfl rfl 1 (by decide) (C.2.2.2.2.2.2.1 _ q1_177) rfl rfl (dq dt_X4_readTide 23 rfl) ?_
        refine kGet (ci := 7) C in_X7 hw 2 rfl rfl 1 (by decide) (C.2.2.2.2.2.2.1 _ q1_55) rfl rfl (dq dt_X4_readTide 24 rfl) ?_
        refine lv_iload_n hx hb (dq dt_X4_readTide 25 rfl) rfl (lv_at hl 1 rfl) ?_
        refine lv_iload_n hx hb (dq dt_X4_readTide 26 rfl) rfl (lv_at hl 0 rfl) ?_
        obtain ⟨g14, eg14, hi15, hF⟩ := wr_ hF
        refine kIast (ws' := [(a_x, .inr (6, [.ref a_x_signs, .int x_length])), (a_x_signs, .inl (cB, 200, .inl x_signs)), (a_g, .inr (7, [.int g_yards, .ref a_g_tides, .int g_seeps, .ref a_g_seepYard, .ref a_g_seepSize, .ref a_g_growth, .ref a_g_level, .int g_children, .ref a_g_kind, .ref a_g_childYard, .ref a_g_pace, .ref a_g_ear])), (a_g_tides, .inl (cI, 12, .inl g14)), (a_r, .inr (4, [.ref a_x, .ref a_g, .int g9, .int g10, .int g11, .int r_lines]))]) C hw 3 1 rfl rfl hi15 eg14 rfl (dq dt_X4_readTide 27 rfl) (fun H locs hw => ?_)
        refine lv_iconst (v := (1 : Int32)) hx hb (dq dt_X4_readTide 28 rfl) (by decide) ?_
        cases hF
        exact kRetZ hQ C rfl hw (dq dt_X4_readTide 29 rfl)
      · replace hF := if_t c13 hF
        refine lv_iconst (v := (0 : Int32)) hx hb (dq dt_X4_readTide 20 rfl) (by decide) ?_
        cases hF
        exact kRetZ hQ C rfl hw (dq dt_X4_readTide 21 rfl)
    · replace hF := if_f c7 hF
      refine lv_iconst (v := (0 : Int32)) hx hb (dq dt_X4_readTide 10 rfl) (by decide) ?_
      cases hF
      exact kRetZ hQ C rfl hw (dq dt_X4_readTide 11 rfl)
