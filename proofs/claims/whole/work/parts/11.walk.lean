def F_X7_hasRoomForSeep (t_seeps : Int32) : Option (Int32) :=
  if (6 : Int32) ≤ t_seeps then (some (0 : Int32)) else (some (1 : Int32))
abbrev rm_X7_hasRoomForSeep : Room := { frames := 0, cells := 0, slots := 0, locals := 0 }
theorem kd_X7_hasRoomForSeep : yX7_hasRoomForSeep.cls = RX7 ∧ yX7_hasRoomForSeep.cls ≠ "java/lang/invoke/MethodHandle" ∧ yX7_hasRoomForSeep.cls ≠ "java/lang/invoke/VarHandle" ∧ (parseMethodDescriptor yX7_hasRoomForSeep.desc).map (fun d => d.parameters.length) = some 0 := by decide +kernel
set_option maxRecDepth 100000 in
set_option maxHeartbeats 4000000 in
theorem A_X7_hasRoomForSeep (l : Launch) (D : va_G) (cB cI cJ cZ : ClassId) (ad : (Nat → Nat) × (Nat → Nat)) (a_t a_t_tides a_t_seepYard a_t_seepSize a_t_growth a_t_level a_t_kind a_t_childYard a_t_pace a_t_ear : Nat) (t_yards : Int32) (t_seeps : Int32) (t_children : Int32) (r : Int32) (hF : F_X7_hasRoomForSeep t_seeps = some r) : kM l yX7_hasRoomForSeep (Cond.code yX7_hasRoomForSeep cX7_hasRoomForSeep 1 (some .boolean) :: W0) rm_X7_hasRoomForSeep D (kT cB cI cJ cZ) ad [.ref a_t] [(a_t, .inr (7, [.int t_yards, .ref a_t_tides, .int t_seeps, .ref a_t_seepYard, .ref a_t_seepSize, .ref a_t_growth, .ref a_t_level, .int t_children, .ref a_t_kind, .ref a_t_childYard, .ref a_t_pace, .ref a_t_ear]))] (some (.int r)) [(a_t, .inr (7, [.int t_yards, .ref a_t_tides, .int t_seeps, .ref a_t_seepYard, .ref a_t_seepSize, .ref a_t_growth, .ref a_t_level, .int t_children, .ref a_t_kind, .ref a_t_childYard, .ref a_t_pace, .ref a_t_ear]))] := by
  unfold F_X7_hasRoomForSeep at hF
  refine kStart (lv := [(0, .ref a_t)]) (own := "DikeWatch$Told") (plainFor_of_name (by decide)) rfl (Nat.le_of_ble_eq_true rfl) rfl ?_
  intro p e s m args below meth c A Q ls hQ C hx hb hw hl
  refine lv_aload_n hx hb (dq dt_X7_hasRoomForSeep 0 rfl) rfl (lv_at hl 0 rfl) ?_
  refine kGet (ci := 7) C in_X7 hw 0 rfl rfl 2 (by decide) (C.2.2.2.2.2.2.1 _ q1_56) rfl rfl (dq dt_X7_hasRoomForSeep 1 rfl) ?_
  refine lv_bipush (v := (6 : Int32)) hx hb (dq dt_X7_hasRoomForSeep 2 rfl) (by decide) ?_
  refine lv_icmp_ge (tgt := 13) hx hb (dq dt_X7_hasRoomForSeep 3 rfl) (by decide) (fun c1 => ?_) (fun c1 => ?_)
  · replace hF := if_t c1 hF
    refine lv_iconst (v := (0 : Int32)) hx hb (dq dt_X7_hasRoomForSeep 6 rfl) (by decide) ?_
    cases hF
    exact kRetZ hQ C rfl hw (dq dt_X7_hasRoomForSeep 7 rfl)
  · replace hF := if_f c1 hF
    refine lv_iconst (v := (1 : Int32)) hx hb (dq dt_X7_hasRoomForSeep 4 rfl) (by decide) ?_
    refine lv_goto (tgt := 14) hx hb (dq dt_X7_hasRoomForSeep 5 rfl) (by decide) ?_
    cases hF
    exact kRetZ hQ C rfl hw (dq dt_X7_hasRoomForSeep 7 rfl)
def F_X7_addSeep (t_seeps : Int32) (t_seepYard : Nat → Int32) (t_seepSize : Nat → Int32) (t_growth : Nat → Int32) (t_level : Nat → Int32) (p1 : Int32) (p2 : Int32) (p3 : Int32) (p4 : Int32) : Option (Int32 × (Nat → Int32) × (Nat → Int32) × (Nat → Int32) × (Nat → Int32)) :=
  zc1 (F_X7_hasRoomForSeep t_seeps) (fun v1 => if v1 = 0 then (some (t_seeps, t_seepYard, t_seepSize, t_growth, t_level)) else (wr 6 t_seeps (upd t_seepYard (t_seeps).toNatClampNeg p1) (fun g4 => wr 6 t_seeps (upd t_seepSize (t_seeps).toNatClampNeg p2) (fun g6 => wr 6 t_seeps (upd t_growth (t_seeps).toNatClampNeg p3) (fun g8 => wr 6 t_seeps (upd t_level (t_seeps).toNatClampNeg p4) (fun g10 => bd (t_seeps + (1 : Int32)) (fun v12 => some (v12, g4, g6, g8, g10))))))))
abbrev rm_X7_addSeep : Room := { frames := 1, cells := 0, slots := 0, locals := 20 }
theorem kd_X7_addSeep : yX7_addSeep.cls = RX7 ∧ yX7_addSeep.cls ≠ "java/lang/invoke/MethodHandle" ∧ yX7_addSeep.cls ≠ "java/lang/invoke/VarHandle" ∧ (parseMethodDescriptor yX7_addSeep.desc).map (fun d => d.parameters.length) = some 4 := by decide +kernel
set_option maxRecDepth 100000 in
set_option maxHeartbeats 4000000 in
theorem A_X7_addSeep (l : Launch) (D : va_G) (cB cI cJ cZ : ClassId) (ad : (Nat → Nat) × (Nat → Nat)) (a_t a_t_tides a_t_seepYard a_t_seepSize a_t_growth a_t_level a_t_kind a_t_childYard a_t_pace a_t_ear : Nat) (t_yards : Int32) (t_seeps : Int32) (t_children : Int32) (t_seepYard : Nat → Int32) (t_seepSize : Nat → Int32) (t_growth : Nat → Int32) (t_level : Nat → Int32) (p1 : Int32) (p2 : Int32) (p3 : Int32) (p4 : Int32) (t_seeps' : Int32) (t_seepYard' : Nat → Int32) (t_seepSize' : Nat → Int32) (t_growth' : Nat → Int32) (t_level' : Nat → Int32) (hF : F_X7_addSeep t_seeps t_seepYard t_seepSize t_growth t_level p1 p2 p3 p4 = some (t_seeps', t_seepYard', t_seepSize', t_growth', t_level')) : kM l yX7_addSeep (Cond.code yX7_addSeep cX7_addSeep 5 (none) :: W0) rm_X7_addSeep D (kT cB cI cJ cZ) ad [.ref a_t, .int p1, .int p2, .int p3, .int p4] [(a_t, .inr (7, [.int t_yards, .ref a_t_tides, .int t_seeps, .ref a_t_seepYard, .ref a_t_seepSize, .ref a_t_growth, .ref a_t_level, .int t_children, .ref a_t_kind, .ref a_t_childYard, .ref a_t_pace, .ref a_t_ear])), (a_t_seepYard, .inl (cI, 6, .inl t_seepYard)), (a_t_seepSize, .inl (cI, 6, .inl t_seepSize)), (a_t_growth, .inl (cI, 6, .inl t_growth)), (a_t_level, .inl (cI, 6, .inl t_level))] none [(a_t, .inr (7, [.int t_yards, .ref a_t_tides, .int (t_seeps'), .ref a_t_seepYard, .ref a_t_seepSize, .ref a_t_growth, .ref a_t_level, .int t_children, .ref a_t_kind, .ref a_t_childYard, .ref a_t_pace, .ref a_t_ear])), (a_t_seepYard, .inl (cI, 6, .inl (t_seepYard'))), (a_t_seepSize, .inl (cI, 6, .inl (t_seepSize'))), (a_t_growth, .inl (cI, 6, .inl (t_growth'))), (a_t_level, .inl (cI, 6, .inl (t_level')))] := by
  unfold F_X7_addSeep at hF
  refine kStart (lv := [(0, .ref a_t), (1, .int p1), (2, .int p2), (3, .int p3), (4, .int p4)]) (own := "DikeWatch$Told") (plainFor_of_name (by decide)) rfl (Nat.le_of_ble_eq_true rfl) rfl ?_
  intro p e s m args below meth c A Q ls hQ C hx hb hw hl
  refine lv_aload_n hx hb (dq dt_X7_addSeep 0 rfl) rfl (lv_at hl 0 rfl) ?_
  obtain ⟨v1, hr2, hF⟩ := zc1_ hF
  refine kCallVR C hw (A_X7_hasRoomForSeep l D cB cI cJ cZ ad a_t a_t_tides a_t_seepYard a_t_seepSize a_t_growth a_t_level a_t_kind a_t_childYard a_t_pace a_t_ear t_yards t_seeps t_children v1 hr2) (cwV 0 C.2.2.2.2.2.2.1 (w0_V0 q2_190 q2_195 q2_188 q2_189 q1_3) rfl rfl rfl kd_X7_hasRoomForSeep ⟨Nat.le_of_ble_eq_true rfl, Nat.le_of_ble_eq_true rfl⟩) [0] rfl rfl 0 7 rfl rfl hl.1 rfl rfl rfl (Nat.le_of_ble_eq_true rfl) ⟨Nat.le_of_ble_eq_true rfl, Nat.le_of_ble_eq_true rfl⟩ (dq dt_X7_addSeep 1 rfl) (fun H locs hw => ?_)
  refine lv_if_ne (tgt := 8) hx hb (dq dt_X7_addSeep 2 rfl) (by decide) (fun c3 => ?_) (fun c3 => ?_)
  · replace hF := if_f c3 hF
    refine lv_aload_n hx hb (dq dt_X7_addSeep 4 rfl) rfl (lv_at hl 0 rfl) ?_
    refine kGet (ci := 7) C in_X7 hw 0 rfl rfl 3 (by decide) (C.2.2.2.2.2.2.1 _ q1_62) rfl rfl (dq dt_X7_addSeep 5 rfl) ?_
    refine lv_aload_n hx hb (dq dt_X7_addSeep 6 rfl) rfl (lv_at hl 0 rfl) ?_
    refine kGet (ci := 7) C in_X7 hw 0 rfl rfl 2 (by decide) (C.2.2.2.2.2.2.1 _ q1_56) rfl rfl (dq dt_X7_addSeep 7 rfl) ?_
    refine lv_iload_n hx hb (dq dt_X7_addSeep 8 rfl) rfl (lv_at hl 1 rfl) ?_
    obtain ⟨g4, eg4, hi5, hF⟩ := wr_ hF
    refine kIast (ws' := [(a_t, .inr (7, [.int t_yards, .ref a_t_tides, .int t_seeps, .ref a_t_seepYard, .ref a_t_seepSize, .ref a_t_growth, .ref a_t_level, .int t_children, .ref a_t_kind, .ref a_t_childYard, .ref a_t_pace, .ref a_t_ear])), (a_t_seepYard, .inl (cI, 6, .inl g4)), (a_t_seepSize, .inl (cI, 6, .inl t_seepSize)), (a_t_growth, .inl (cI, 6, .inl t_growth)), (a_t_level, .inl (cI, 6, .inl t_level))]) C hw 1 1 rfl rfl hi5 eg4 rfl (dq dt_X7_addSeep 9 rfl) (fun H locs hw => ?_)
    refine lv_aload_n hx hb (dq dt_X7_addSeep 10 rfl) rfl (lv_at hl 0 rfl) ?_
    refine kGet (ci := 7) C in_X7 hw 0 rfl rfl 4 (by decide) (C.2.2.2.2.2.2.1 _ q1_66) rfl rfl (dq dt_X7_addSeep 11 rfl) ?_
    refine lv_aload_n hx hb (dq dt_X7_addSeep 12 rfl) rfl (lv_at hl 0 rfl) ?_
    refine kGet (ci := 7) C in_X7 hw 0 rfl rfl 2 (by decide) (C.2.2.2.2.2.2.1 _ q1_56) rfl rfl (dq dt_X7_addSeep 13 rfl) ?_
    refine lv_iload_n hx hb (dq dt_X7_addSeep 14 rfl) rfl (lv_at hl 2 rfl) ?_
    obtain ⟨g6, eg6, hi7, hF⟩ := wr_ hF
    refine kIast (ws' := [(a_t, .inr (7, [.int t_yards, .ref a_t_tides, .int t_seeps, .ref a_t_seepYard, .ref a_t_seepSize, .ref a_t_growth, .ref a_t_level, .int t_children, .ref a_t_kind, .ref a_t_childYard, .ref a_t_pace, .ref a_t_ear])), (a_t_seepYard, .inl (cI, 6, .inl g4)), (a_t_seepSize, .inl (cI, 6, .inl g6)), (a_t_growth, .inl (cI, 6, .inl t_growth)), (a_t_level, .inl (cI, 6, .inl t_level))]) C hw 2 1 rfl rfl hi7 eg6 rfl (dq dt_X7_addSeep 15 rfl) (fun H locs hw => ?_)
    refine lv_aload_n hx hb (dq dt_X7_addSeep 16 rfl) rfl (lv_at hl 0 rfl) ?_
    refine kGet (ci := 7) C in_X7 hw 0 rfl rfl 5 (by decide) (C.2.2.2.2.2.2.1 _ q1_68) rfl rfl (dq dt_X7_addSeep 17 rfl) ?_
    refine lv_aload_n hx hb (dq dt_X7_addSeep 18 rfl) rfl (lv_at hl 0 rfl) ?_
    refine kGet (ci := 7) C in_X7 hw 0 rfl rfl 2 (by decide) (C.2.2.2.2.2.2.1 _ q1_56) rfl rfl (dq dt_X7_addSeep 19 rfl) ?_
    refine lv_iload_n hx hb (dq dt_X7_addSeep 20 rfl) rfl (lv_at hl 3 rfl) ?_
    obtain ⟨g8, eg8, hi9, hF⟩ := wr_ hF
    refine kIast (ws' := [(a_t, .inr (7, [.int t_yards, .ref a_t_tides, .int t_seeps, .ref a_t_seepYard, .ref a_t_seepSize, .ref a_t_growth, .ref a_t_level, .int t_children, .ref a_t_kind, .ref a_t_childYard, .ref a_t_pace, .ref a_t_ear])), (a_t_seepYard, .inl (cI, 6, .inl g4)), (a_t_seepSize, .inl (cI, 6, .inl g6)), (a_t_growth, .inl (cI, 6, .inl g8)), (a_t_level, .inl (cI, 6, .inl t_level))]) C hw 3 1 rfl rfl hi9 eg8 rfl (dq dt_X7_addSeep 21 rfl) (fun H locs hw => ?_)
    refine lv_aload_n hx hb (dq dt_X7_addSeep 22 rfl) rfl (lv_at hl 0 rfl) ?_
    refine kGet (ci := 7) C in_X7 hw 0 rfl rfl 6 (by decide) (C.2.2.2.2.2.2.1 _ q1_70) rfl rfl (dq dt_X7_addSeep 23 rfl) ?_
    refine lv_aload_n hx hb (dq dt_X7_addSeep 24 rfl) rfl (lv_at hl 0 rfl) ?_
    refine kGet (ci := 7) C in_X7 hw 0 rfl rfl 2 (by decide) (C.2.2.2.2.2.2.1 _ q1_56) rfl rfl (dq dt_X7_addSeep 25 rfl) ?_
    refine lv_iload hx hb (dq dt_X7_addSeep 26 rfl) (lv_at hl 4 rfl) ?_
    obtain ⟨g10, eg10, hi11, hF⟩ := wr_ hF
    refine kIast (ws' := [(a_t, .inr (7, [.int t_yards, .ref a_t_tides, .int t_seeps, .ref a_t_seepYard, .ref a_t_seepSize, .ref a_t_growth, .ref a_t_level, .int t_children, .ref a_t_kind, .ref a_t_childYard, .ref a_t_pace, .ref a_t_ear])), (a_t_seepYard, .inl (cI, 6, .inl g4)), (a_t_seepSize, .inl (cI, 6, .inl g6)), (a_t_growth, .inl (cI, 6, .inl g8)), (a_t_level, .inl (cI, 6, .inl g10))]) C hw 4 1 rfl rfl hi11 eg10 rfl (dq dt_X7_addSeep 27 rfl) (fun H locs hw => ?_)
    refine lv_aload_n hx hb (dq dt_X7_addSeep 28 rfl) rfl (lv_at hl 0 rfl) ?_
    refine lv_dup hx hb (dq dt_X7_addSeep 29 rfl) rfl ?_
    refine kGet (ci := 7) C in_X7 hw 0 rfl rfl 2 (by decide) (C.2.2.2.2.2.2.1 _ q1_56) rfl rfl (dq dt_X7_addSeep 30 rfl) ?_
    refine lv_iconst (v := (1 : Int32)) hx hb (dq dt_X7_addSeep 31 rfl) (by decide) ?_
    refine lv_iadd hx hb (dq dt_X7_addSeep 32 rfl) ?_
    obtain ⟨v12, ev12, hF⟩ := bd_ hF
    refine kNmI ev12 ?_
    refine kPut (ci := 7) (ws' := [(a_t, .inr (7, [.int t_yards, .ref a_t_tides, .int v12, .ref a_t_seepYard, .ref a_t_seepSize, .ref a_t_growth, .ref a_t_level, .int t_children, .ref a_t_kind, .ref a_t_childYard, .ref a_t_pace, .ref a_t_ear])), (a_t_seepYard, .inl (cI, 6, .inl g4)), (a_t_seepSize, .inl (cI, 6, .inl g6)), (a_t_growth, .inl (cI, 6, .inl g8)), (a_t_level, .inl (cI, 6, .inl g10))]) C in_X7 tyX7 tyX7_ok nmX7 hw 0 rfl rfl 2 (by decide) (C.2.2.2.2.2.2.1 _ q1_56) rfl rfl rfl rfl (Nat.le_of_ble_eq_true rfl) rfl (dq dt_X7_addSeep 33 rfl) (fun H locs hw => ?_)
    cases hF
    exact kRetV hQ C hw (dq dt_X7_addSeep 34 rfl)
  · replace hF := if_t c3 hF
    cases hF
    exact kRetV hQ C hw (dq dt_X7_addSeep 3 rfl)
def F_X4_readSeep (x_length : Int32) (x_signs : Nat → Int32) (g_yards : Int32) (g_seeps : Int32) (g_seepYard : Nat → Int32) (g_seepSize : Nat → Int32) (g_growth : Nat → Int32) (g_level : Nat → Int32) (r_sort : Int32) (r_begin : Int32) (r_end : Int32) : Option (Int32 × Int32 × (Nat → Int32) × (Nat → Int32) × (Nat → Int32) × (Nat → Int32) × Int32 × Int32 × Int32) :=
  zc1 (F_X7_hasRoomForSeep g_seeps) (fun v1 => if v1 = 0 then (some ((0 : Int32), g_seeps, g_seepYard, g_seepSize, g_growth, g_level, r_sort, r_begin, r_end)) else (bd (g_yards - (1 : Int32)) (fun v4 => zc4 (F_X4_readNumber x_length x_signs r_sort r_begin r_end (0 : Int32) v4) (fun v5 g6 g7 g8 => zj4 (fun h10 h11 h12 y13 => zj4 (fun h15 h16 h17 y18 => zj4 (fun h20 h21 h22 y23 => if y23 = (-1 : Int32) then (some ((0 : Int32), g_seeps, g_seepYard, g_seepSize, g_growth, g_level, h20, h21, h22)) else (zc5 (F_X7_addSeep g_seeps g_seepYard g_seepSize g_growth g_level v5 y13 y18 y23) (fun g26 g27 g28 g29 g30 => some ((1 : Int32), g26, g27, g28, g29, g30, h20, h21, h22)))) (fun K24 => if y18 = (-1 : Int32) then (K24 h15 h16 h17 (-1 : Int32)) else (zc4 (F_X4_readNumber x_length x_signs h15 h16 h17 (0 : Int32) (9 : Int32)) (fun v33 g34 g35 g36 => K24 g34 g35 g36 v33)))) (fun K19 => if y13 = (-1 : Int32) then (K19 h10 h11 h12 (-1 : Int32)) else (zc4 (F_X4_readNumber x_length x_signs h10 h11 h12 (0 : Int32) (9 : Int32)) (fun v39 g40 g41 g42 => K19 g40 g41 g42 v39)))) (fun K14 => if v5 = (-1 : Int32) then (K14 g6 g7 g8 (-1 : Int32)) else (zc4 (F_X4_readNumber x_length x_signs g6 g7 g8 (1 : Int32) (99 : Int32)) (fun v45 g46 g47 g48 => K14 g46 g47 g48 v45)))))))
abbrev rm_X4_readSeep : Room := { frames := 3, cells := 0, slots := 0, locals := 66 }
theorem kd_X4_readSeep : yX4_readSeep.cls = RX4 ∧ yX4_readSeep.cls ≠ "java/lang/invoke/MethodHandle" ∧ yX4_readSeep.cls ≠ "java/lang/invoke/VarHandle" ∧ (parseMethodDescriptor yX4_readSeep.desc).map (fun d => d.parameters.length) = some 0 := by decide +kernel
set_option maxRecDepth 100000 in
set_option maxHeartbeats 4000000 in
theorem A_X4_readSeep (l : Launch) (D : va_G) (cB cI cJ cZ : ClassId) (ad : (Nat → Nat) × (Nat → Nat)) (a_x a_x_signs a_g a_g_tides a_g_seepYard a_g_seepSize a_g_growth a_g_level a_g_kind a_g_childYard a_g_pace a_g_ear a_r : Nat) (x_length : Int32) (x_signs : Nat → Int32) (g_yards : Int32) (g_seeps : Int32) (g_children : Int32) (g_seepYard : Nat → Int32) (g_seepSize : Nat → Int32) (g_growth : Nat → Int32) (g_level : Nat → Int32) (r_sort : Int32) (r_begin : Int32) (r_end : Int32) (r_lines : Int32) (r : Int32) (g_seeps' : Int32) (g_seepYard' : Nat → Int32) (g_seepSize' : Nat → Int32) (g_growth' : Nat → Int32) (g_level' : Nat → Int32) (r_sort' : Int32) (r_begin' : Int32) (r_end' : Int32) (hF : F_X4_readSeep x_length x_signs g_yards g_seeps g_seepYard g_seepSize g_growth g_level r_sort r_begin r_end = some (r, g_seeps', g_seepYard', g_seepSize', g_growth', g_level', r_sort', r_begin', r_end')) : kM l yX4_readSeep (Cond.code yX4_readSeep cX4_readSeep 5 (some .boolean) :: W0) rm_X4_readSeep D (kT cB cI cJ cZ) ad [.ref a_r] [(a_x, .inr (6, [.ref a_x_signs, .int x_length])), (a_x_signs, .inl (cB, 200, .inl x_signs)), (a_g, .inr (7, [.int g_yards, .ref a_g_tides, .int g_seeps, .ref a_g_seepYard, .ref a_g_seepSize, .ref a_g_growth, .ref a_g_level, .int g_children, .ref a_g_kind, .ref a_g_childYard, .ref a_g_pace, .ref a_g_ear])), (a_g_seepYard, .inl (cI, 6, .inl g_seepYard)), (a_g_seepSize, .inl (cI, 6, .inl g_seepSize)), (a_g_growth, .inl (cI, 6, .inl g_growth)), (a_g_level, .inl (cI, 6, .inl g_level)), (a_r, .inr (4, [.ref a_x, .ref a_g, .int r_sort, .int r_begin, .int r_end, .int r_lines]))] (some (.int r)) [(a_x, .inr (6, [.ref a_x_signs, .int x_length])), (a_x_signs, .inl (cB, 200, .inl x_signs)), (a_g, .inr (7, [.int g_yards, .ref a_g_tides, .int (g_seeps'), .ref a_g_seepYard, .ref a_g_seepSize, .ref a_g_growth, .ref a_g_level, .int g_children, .ref a_g_kind, .ref a_g_childYard, .ref a_g_pace, .ref a_g_ear])), (a_g_seepYard, .inl (cI, 6, .inl (g_seepYard'))), (a_g_seepSize, .inl (cI, 6, .inl (g_seepSize'))), (a_g_growth, .inl (cI, 6, .inl (g_growth'))), (a_g_level, .inl (cI, 6, .inl (g_level'))), (a_r, .inr (4, [.ref a_x, .ref a_g, .int (r_sort'), .int (r_begin'), .int (r_end'), .int r_lines]))] := by
  unfold F_X4_readSeep at hF
  refine kStart (lv := [(0, .ref a_r)]) (own := "DikeWatch$Reader") (plainFor_of_name (by decide)) rfl (Nat.le_of_ble_eq_true rfl) rfl ?_
  intro p e s m args below meth c A Q ls hQ C hx hb hw hl
  refine lv_aload_n hx hb (dq dt_X4_readSeep 0 rfl) rfl (lv_at hl 0 rfl) ?_
  refine kGet (ci := 4) C in_X4 hw 7 rfl rfl 1 (by decide) (C.2.2.2.2.2.2.1 _ q1_177) rfl rfl (dq dt_X4_readSeep 1 rfl) ?_
  obtain ⟨v1, hr2, hF⟩ := zc1_ hF
  refine kCallVR C hw (A_X7_hasRoomForSeep l D cB cI cJ cZ ad a_g a_g_tides a_g_seepYard a_g_seepSize a_g_growth a_g_level a_g_kind a_g_childYard a_g_pace a_g_ear g_yards g_seeps g_children v1 hr2) (cwV 0 C.2.2.2.2.2.2.1 (w0_V0 q2_190 q2_187 q2_188 q2_189 q1_3) rfl rfl rfl kd_X7_hasRoomForSeep ⟨Nat.le_of_ble_eq_true rfl, Nat.le_of_ble_eq_true rfl⟩) [2] rfl rfl 2 7 rfl rfl hl.1 rfl rfl rfl (Nat.le_of_ble_eq_true rfl) ⟨Nat.le_of_ble_eq_true rfl, Nat.le_of_ble_eq_true rfl⟩ (dq dt_X4_readSeep 2 rfl) (fun H locs hw => ?_)
  refine lv_if_ne (tgt := 12) hx hb (dq dt_X4_readSeep 3 rfl) (by decide) (fun c3 => ?_) (fun c3 => ?_)
  · replace hF := if_f c3 hF
    refine lv_aload_n hx hb (dq dt_X4_readSeep 6 rfl) rfl (lv_at hl 0 rfl) ?_
    refine lv_iconst (v := (0 : Int32)) hx hb (dq dt_X4_readSeep 7 rfl) (by decide) ?_
    refine lv_aload_n hx hb (dq dt_X4_readSeep 8 rfl) rfl (lv_at hl 0 rfl) ?_
    refine kGet (ci := 4) C in_X4 hw 7 rfl rfl 1 (by decide) (C.2.2.2.2.2.2.1 _ q1_177) rfl rfl (dq dt_X4_readSeep 9 rfl) ?_
    refine kGet (ci := 7) C in_X7 hw 2 rfl rfl 0 (by decide) (C.2.2.2.2.2.2.1 _ q1_53) rfl rfl (dq dt_X4_readSeep 10 rfl) ?_
    refine lv_iconst (v := (1 : Int32)) hx hb (dq dt_X4_readSeep 11 rfl) (by decide) ?_
    refine lv_isub hx hb (dq dt_X4_readSeep 12 rfl) ?_
    obtain ⟨v4, ev4, hF⟩ := bd_ hF
    refine kNmI ev4 ?_
    obtain ⟨v5, g6, g7, g8, hr9, hF⟩ := zc4_ hF
    refine kCallV (ws2 := [(a_x, .inr (6, [.ref a_x_signs, .int x_length])), (a_x_signs, .inl (cB, 200, .inl x_signs)), (a_g, .inr (7, [.int g_yards, .ref a_g_tides, .int g_seeps, .ref a_g_seepYard, .ref a_g_seepSize, .ref a_g_growth, .ref a_g_level, .int g_children, .ref a_g_kind, .ref a_g_childYard, .ref a_g_pace, .ref a_g_ear])), (a_g_seepYard, .inl (cI, 6, .inl g_seepYard)), (a_g_seepSize, .inl (cI, 6, .inl g_seepSize)), (a_g_growth, .inl (cI, 6, .inl g_growth)), (a_g_level, .inl (cI, 6, .inl g_level)), (a_r, .inr (4, [.ref a_x, .ref a_g, .int g6, .int g7, .int g8, .int r_lines]))]) C hw (A_X4_readNumber l D cB cI cJ cZ ad a_x a_x_signs a_r a_g x_length x_signs r_sort r_begin r_end r_lines (0 : Int32) v4 v5 g6 g7 g8 hr9) (cwV 2 C.2.2.2.2.2.2.1 (w0_V0 q2_168 q2_165 q2_167 (ws0 4 rfl) q1_6) rfl rfl rfl kd_X4_readNumber ⟨Nat.le_of_ble_eq_true rfl, Nat.le_of_ble_eq_true rfl⟩) [0, 1, 7] rfl rfl rfl rfl 7 4 rfl rfl hl.1 rfl rfl rfl (Nat.le_of_ble_eq_true rfl) ⟨Nat.le_of_ble_eq_true rfl, Nat.le_of_ble_eq_true rfl⟩ (dq dt_X4_readSeep 13 rfl) (fun H locs hw => ?_)
    refine lv_istore_n (lv' := [(1, .int v5), (0, .ref a_r)]) hx hb (dq dt_X4_readSeep 14 rfl) rfl hl (by decide) rfl (fun ls hl => ?_)
    refine lv_iload_n hx hb (dq dt_X4_readSeep 15 rfl) rfl (lv_at hl 0 rfl) ?_
    refine lv_iconst (v := (-1 : Int32)) hx hb (dq dt_X4_readSeep 16 rfl) (by decide) ?_
    obtain ⟨K14, hK14, hF⟩ := zj4_ hF
    have J14 : ∀ (h10 : Int32) (h11 : Int32) (h12 : Int32) (y13 : Int32), K14 h10 h11 h12 y13 = some (r, g_seeps', g_seepYard', g_seepSize', g_growth', g_level', r_sort', r_begin', r_end') → ∀ (H : Heap) (locs : List Loc) (ls : Array Slot), kW D A s.heap [(a_x, .inr (6, [.ref a_x_signs, .int x_length])), (a_x_signs, .inl (cB, 200, .inl x_signs)), (a_g, .inr (7, [.int g_yards, .ref a_g_tides, .int g_seeps, .ref a_g_seepYard, .ref a_g_seepSize, .ref a_g_growth, .ref a_g_level, .int g_children, .ref a_g_kind, .ref a_g_childYard, .ref a_g_pace, .ref a_g_ear])), (a_g_seepYard, .inl (cI, 6, .inl g_seepYard)), (a_g_seepSize, .inl (cI, 6, .inl g_seepSize)), (a_g_growth, .inl (cI, 6, .inl g_growth)), (a_g_level, .inl (cI, 6, .inl g_level)), (a_r, .inr (4, [.ref a_x, .ref a_g, .int h10, .int h11, .int h12, .int r_lines]))] H locs → lv_has ls 5 [(0, .ref a_r), (1, .int v5)] → W p l e rm_X4_readSeep s m args below meth c H locs 0 0 Q (F0 m 43 ls [.int y13]) := by
      intro h10 h11 h12 y13 hF H locs ls hw hl
      replace hF := hK14 h10 h11 h12 y13 hF
      refine lv_istore_n (lv' := [(2, .int y13), (0, .ref a_r), (1, .int v5)]) hx hb (dq dt_X4_readSeep 24 rfl) rfl hl (by decide) rfl (fun ls hl => ?_)
      refine lv_iload_n hx hb (dq dt_X4_readSeep 25 rfl) rfl (lv_at hl 0 rfl) ?_
      refine lv_iconst (v := (-1 : Int32)) hx hb (dq dt_X4_readSeep 26 rfl) (by decide) ?_
      obtain ⟨K19, hK19, hF⟩ := zj4_ hF
      have J19 : ∀ (h15 : Int32) (h16 : Int32) (h17 : Int32) (y18 : Int32), K19 h15 h16 h17 y18 = some (r, g_seeps', g_seepYard', g_seepSize', g_growth', g_level', r_sort', r_begin', r_end') → ∀ (H : Heap) (locs : List Loc) (ls : Array Slot), kW D A s.heap [(a_x, .inr (6, [.ref a_x_signs, .int x_length])), (a_x_signs, .inl (cB, 200, .inl x_signs)), (a_g, .inr (7, [.int g_yards, .ref a_g_tides, .int g_seeps, .ref a_g_seepYard, .ref a_g_seepSize, .ref a_g_growth, .ref a_g_level, .int g_children, .ref a_g_kind, .ref a_g_childYard, .ref a_g_pace, .ref a_g_ear])), (a_g_seepYard, .inl (cI, 6, .inl g_seepYard)), (a_g_seepSize, .inl (cI, 6, .inl g_seepSize)), (a_g_growth, .inl (cI, 6, .inl g_growth)), (a_g_level, .inl (cI, 6, .inl g_level)), (a_r, .inr (4, [.ref a_x, .ref a_g, .int h15, .int h16, .int h17, .int r_lines]))] H locs → lv_has ls 5 [(0, .ref a_r), (1, .int v5), (2, .int y13)] → W p l e rm_X4_readSeep s m args below meth c H locs 0 0 Q (F0 m 60 ls [.int y18]) := by
        intro h15 h16 h17 y18 hF H locs ls hw hl
        replace hF := hK19 h15 h16 h17 y18 hF
        refine lv_istore_n (lv' := [(3, .int y18), (0, .ref a_r), (1, .int v5), (2, .int y13)]) hx hb (dq dt_X4_readSeep 34 rfl) rfl hl (by decide) rfl (fun ls hl => ?_)
        refine lv_iload_n hx hb (dq dt_X4_readSeep 35 rfl) rfl (lv_at hl 0 rfl) ?_
        refine lv_iconst (v := (-1 : Int32)) hx hb (dq dt_X4_readSeep 36 rfl) (by decide) ?_
        obtain ⟨K24, hK24, hF⟩ := zj4_ hF
        have J24 : ∀ (h20 : Int32) (h21 : Int32) (h22 : Int32) (y23 : Int32), K24 h20 h21 h22 y23 = some (r, g_seeps', g_seepYard', g_seepSize', g_growth', g_level', r_sort', r_begin', r_end') → ∀ (H : Heap) (locs : List Loc) (ls : Array Slot), kW D A s.heap [(a_x, .inr (6, [.ref a_x_signs, .int x_length])), (a_x_signs, .inl (cB, 200, .inl x_signs)), (a_g, .inr (7, [.int g_yards, .ref a_g_tides, .int g_seeps, .ref a_g_seepYard, .ref a_g_seepSize, .ref a_g_growth, .ref a_g_level, .int g_children, .ref a_g_kind, .ref a_g_childYard, .ref a_g_pace, .ref a_g_ear])), (a_g_seepYard, .inl (cI, 6, .inl g_seepYard)), (a_g_seepSize, .inl (cI, 6, .inl g_seepSize)), (a_g_growth, .inl (cI, 6, .inl g_growth)), (a_g_level, .inl (cI, 6, .inl g_level)), (a_r, .inr (4, [.ref a_x, .ref a_g, .int h20, .int h21, .int h22, .int r_lines]))] H locs → lv_has ls 5 [(0, .ref a_r), (1, .int v5), (2, .int y13), (3, .int y18)] → W p l e rm_X4_readSeep s m args below meth c H locs 0 0 Q (F0 m 77 ls [.int y23]) := by
          intro h20 h21 h22 y23 hF H locs ls hw hl
          replace hF := hK24 h20 h21 h22 y23 hF
          refine lv_istore (lv' := [(4, .int y23), (0, .ref a_r), (1, .int v5), (2, .int y13), (3, .int y18)]) hx hb (dq dt_X4_readSeep 44 rfl) hl (by decide) rfl (fun ls hl => ?_)
          refine lv_iload hx hb (dq dt_X4_readSeep 45 rfl) (lv_at hl 0 rfl) ?_
          refine lv_iconst (v := (-1 : Int32)) hx hb (dq dt_X4_readSeep 46 rfl) (by decide) ?_
          refine lv_icmp_ne (tgt := 87) hx hb (dq dt_X4_readSeep 47 rfl) (by decide) (fun c25 => ?_) (fun c25 => ?_)
          · replace hF := if_f c25 hF
            refine lv_aload_n hx hb (dq dt_X4_readSeep 50 rfl) rfl (lv_at hl 1 rfl) ?_
            refine kGet (ci := 4) C in_X4 hw 7 rfl rfl 1 (by decide) (C.2.2.2.2.2.2.1 _ q1_177) rfl rfl (dq dt_X4_readSeep 51 rfl) ?_
            refine lv_iload_n hx hb (dq dt_X4_readSeep 52 rfl) rfl (lv_at hl 2 rfl) ?_
            refine lv_iload_n hx hb (dq dt_X4_readSeep 53 rfl) rfl (lv_at hl 3 rfl) ?_
            refine lv_iload_n hx hb (dq dt_X4_readSeep 54 rfl) rfl (lv_at hl 4 rfl) ?_
            refine lv_iload hx hb (dq dt_X4_readSeep 55 rfl) (lv_at hl 0 rfl) ?_
            obtain ⟨g26, g27, g28, g29, g30, hr31, hF⟩ := zc5_ hF
            refine kCallV (ws2 := [(a_x, .inr (6, [.ref a_x_signs, .int x_length])), (a_x_signs, .inl (cB, 200, .inl x_signs)), (a_g, .inr (7, [.int g_yards, .ref a_g_tides, .int g26, .ref a_g_seepYard, .ref a_g_seepSize, .ref a_g_growth, .ref a_g_level, .int g_children, .ref a_g_kind, .ref a_g_childYard, .ref a_g_pace, .ref a_g_ear])), (a_g_seepYard, .inl (cI, 6, .inl g27)), (a_g_seepSize, .inl (cI, 6, .inl g28)), (a_g_growth, .inl (cI, 6, .inl g29)), (a_g_level, .inl (cI, 6, .inl g30)), (a_r, .inr (4, [.ref a_x, .ref a_g, .int h20, .int h21, .int h22, .int r_lines]))]) C hw (A_X7_addSeep l D cB cI cJ cZ ad a_g a_g_tides a_g_seepYard a_g_seepSize a_g_growth a_g_level a_g_kind a_g_childYard a_g_pace a_g_ear g_yards g_seeps g_children g_seepYard g_seepSize g_growth g_level v5 y13 y18 y23 g26 g27 g28 g29 g30 hr31) (cwV 4 C.2.2.2.2.2.2.1 (w0_V0 q2_194 q2_191 q2_192 q2_193 q1_3) rfl rfl rfl kd_X7_addSeep ⟨Nat.le_of_ble_eq_true rfl, Nat.le_of_ble_eq_true rfl⟩) [2, 3, 4, 5, 6] rfl rfl rfl rfl 2 7 rfl rfl hl.1 rfl rfl rfl (Nat.le_of_ble_eq_true rfl) ⟨Nat.le_of_ble_eq_true rfl, Nat.le_of_ble_eq_true rfl⟩ (dq dt_X4_readSeep 56 rfl) (fun H locs hw => ?_)
            refine lv_iconst (v := (1 : Int32)) hx hb (dq dt_X4_readSeep 57 rfl) (by decide) ?_
            cases hF
            exact kRetZ hQ C rfl hw (dq dt_X4_readSeep 58 rfl)
          · replace hF := if_t c25 hF
            refine lv_iconst (v := (0 : Int32)) hx hb (dq dt_X4_readSeep 48 rfl) (by decide) ?_
            cases hF
            exact kRetZ hQ C rfl hw (dq dt_X4_readSeep 49 rfl)
        refine lv_icmp_ne (tgt := 70) hx hb (dq dt_X4_readSeep 37 rfl) (by decide) (fun c32 => ?_) (fun c32 => ?_)
        · replace hF := if_f c32 hF
          refine lv_aload_n hx hb (dq dt_X4_readSeep 40 rfl) rfl (lv_at hl 1 rfl) ?_
          refine lv_iconst (v := (0 : Int32)) hx hb (dq dt_X4_readSeep 41 rfl) (by decide) ?_
          refine lv_bipush (v := (9 : Int32)) hx hb (dq dt_X4_readSeep 42 rfl) (by decide) ?_
          obtain ⟨v33, g34, g35, g36, hr37, hF⟩ := zc4_ hF
          refine kCallV (ws2 := [(a_x, .inr (6, [.ref a_x_signs, .int x_length])), (a_x_signs, .inl (cB, 200, .inl x_signs)), (a_g, .inr (7, [.int g_yards, .ref a_g_tides, .int g_seeps, .ref a_g_seepYard, .ref a_g_seepSize, .ref a_g_growth, .ref a_g_level, .int g_children, .ref a_g_kind, .ref a_g_childYard, .ref a_g_pace, .ref a_g_ear])), (a_g_seepYard, .inl (cI, 6, .inl g_seepYard)), (a_g_seepSize, .inl (cI, 6, .inl g_seepSize)), (a_g_growth, .inl (cI, 6, .inl g_growth)), (a_g_level, .inl (cI, 6, .inl g_level)), (a_r, .inr (4, [.ref a_x, .ref a_g, .int g34, .int g35, .int g36, .int r_lines]))]) C hw (A_X4_readNumber l D cB cI cJ cZ ad a_x a_x_signs a_r a_g x_length x_signs h15 h16 h17 r_lines (0 : Int32) (9 : Int32) v33 g34 g35 g36 hr37) (cwV 2 C.2.2.2.2.2.2.1 (w0_V0 q2_168 q2_165 q2_167 (ws0 4 rfl) q1_6) rfl rfl rfl kd_X4_readNumber ⟨Nat.le_of_ble_eq_true rfl, Nat.le_of_ble_eq_true rfl⟩) [0, 1, 7] rfl rfl rfl rfl 7 4 rfl rfl hl.1 rfl rfl rfl (Nat.le_of_ble_eq_true rfl) ⟨Nat.le_of_ble_eq_true rfl, Nat.le_of_ble_eq_true rfl⟩ (dq dt_X4_readSeep 43 rfl) (fun H locs hw => ?_)
          exact J24 g34 g35 g36 v33 hF _ _ _ hw (lv_sub hl [1, 2, 3, 0] rfl)
        · replace hF := if_t c32 hF
          refine lv_iconst (v := (-1 : Int32)) hx hb (dq dt_X4_readSeep 38 rfl) (by decide) ?_
          refine lv_goto (tgt := 77) hx hb (dq dt_X4_readSeep 39 rfl) (by decide) ?_
          exact J24 h15 h16 h17 (-1 : Int32) hF _ _ _ hw (lv_sub hl [1, 2, 3, 0] rfl)
      refine lv_icmp_ne (tgt := 53) hx hb (dq dt_X4_readSeep 27 rfl) (by decide) (fun c38 => ?_) (fun c38 => ?_)
      · replace hF := if_f c38 hF
        refine lv_aload_n hx hb (dq dt_X4_readSeep 30 rfl) rfl (lv_at hl 1 rfl) ?_
        refine lv_iconst (v := (0 : Int32)) hx hb (dq dt_X4_readSeep 31 rfl) (by decide) ?_
        refine lv_bipush (v := (9 : Int32)) hx hb (dq dt_X4_readSeep 32 rfl) (by decide) ?_
        obtain ⟨v39, g40, g41, g42, hr43, hF⟩ := zc4_ hF
        refine kCallV (ws2 := [(a_x, .inr (6, [.ref a_x_signs, .int x_length])), (a_x_signs, .inl (cB, 200, .inl x_signs)), (a_g, .inr (7, [.int g_yards, .ref a_g_tides, .int g_seeps, .ref a_g_seepYard, .ref a_g_seepSize, .ref a_g_growth, .ref a_g_level, .int g_children, .ref a_g_kind, .ref a_g_childYard, .ref a_g_pace, .ref a_g_ear])), (a_g_seepYard, .inl (cI, 6, .inl g_seepYard)), (a_g_seepSize, .inl (cI, 6, .inl g_seepSize)), (a_g_growth, .inl (cI, 6, .inl g_growth)), (a_g_level, .inl (cI, 6, .inl g_level)), (a_r, .inr (4, [.ref a_x, .ref a_g, .int g40, .int g41, .int g42, .int r_lines]))]) C hw (A_X4_readNumber l D cB cI cJ cZ ad a_x a_x_signs a_r a_g x_length x_signs h10 h11 h12 r_lines (0 : Int32) (9 : Int32) v39 g40 g41 g42 hr43) (cwV 2 C.2.2.2.2.2.2.1 (w0_V0 q2_168 q2_165 q2_167 (ws0 4 rfl) q1_6) rfl rfl rfl kd_X4_readNumber ⟨Nat.le_of_ble_eq_true rfl, Nat.le_of_ble_eq_true rfl⟩) [0, 1, 7] rfl rfl rfl rfl 7 4 rfl rfl hl.1 rfl rfl rfl (Nat.le_of_ble_eq_true rfl) ⟨Nat.le_of_ble_eq_true rfl, Nat.le_of_ble_eq_true rfl⟩ (dq dt_X4_readSeep 33 rfl) (fun H locs hw => ?_)
        exact J19 g40 g41 g42 v39 hF _ _ _ hw (lv_sub hl [1, 2, 0] rfl)
      · replace hF := if_t c38 hF
        refine lv_iconst (v := (-1 : Int32)) hx hb (dq dt_X4_readSeep 28 rfl) (by decide) ?_
        refine lv_goto (tgt := 60) hx hb (dq dt_X4_readSeep 29 rfl) (by decide) ?_
        exact J19 h10 h11 h12 (-1 : Int32) hF _ _ _ hw (lv_sub hl [1, 2, 0] rfl)
    refine lv_icmp_ne (tgt := 36) hx hb (dq dt_X4_readSeep 17 rfl) (by decide) (fun c44 => ?_) (fun c44 => ?_)
    · replace hF := if_f c44 hF
      refine lv_aload_n hx hb (dq dt_X4_readSeep 20 rfl) rfl (lv_at hl 1 rfl) ?_
      refine lv_iconst (v := (1 : Int32)) hx hb (dq dt_X4_readSeep 21 rfl) (by decide) ?_
      refine lv_bipush (v := (99 : Int32)) hx hb (dq dt_X4_readSeep 22 rfl) (by decide) ?_
      obtain ⟨v45, g46, g47, g48, hr49, hF⟩ := zc4_ hF
      refine kCallV (ws2 := [(a_x, .inr (6, [.ref a_x_signs, .int x_length])), (a_x_signs, .inl (cB, 200, .inl x_signs)), (a_g, .inr (7, [.int g_yards, .ref a_g_tides, .int g_seeps, .ref a_g_seepYard, .ref a_g_seepSize, .ref a_g_growth, .ref a_g_level, .int g_children, .ref a_g_kind, .ref a_g_childYard, .ref a_g_pace, .ref a_g_ear])), (a_g_seepYard, .inl (cI, 6, .inl g_seepYard)), (a_g_seepSize, .inl (cI, 6, .inl g_seepSize)), (a_g_growth, .inl (cI, 6, .inl g_growth)), (a_g_level, .inl (cI, 6, .inl g_level)), (a_r, .inr (4, [.ref a_x, .ref a_g, .int g46, .int g47, .int g48, .int r_lines]))]) C hw (A_X4_readNumber l D cB cI cJ cZ ad a_x a_x_signs a_r a_g x_length x_signs g6 g7 g8 r_lines (1 : Int32) (99 : Int32) v45 g46 g47 g48 hr49) (cwV 2 C.2.2.2.2.2.2.1 (w0_V0 q2_168 q2_165 q2_167 (ws0 4 rfl) q1_6) rfl rfl rfl kd_X4_readNumber ⟨Nat.le_of_ble_eq_true rfl, Nat.le_of_ble_eq_true rfl⟩) [0, 1, 7] rfl rfl rfl rfl 7 4 rfl rfl hl.1 rfl rfl rfl (Nat.le_of_ble_eq_true rfl) ⟨Nat.le_of_ble_eq_true rfl, Nat.le_of_ble_eq_true rfl⟩ (dq dt_X4_readSeep 23 rfl) (fun H locs hw => ?_)
      exact J14 g46 g47 g48 v45 hF _ _ _ hw (lv_sub hl [1, 0] rfl)
    · replace hF := if_t c44 hF
      refine lv_iconst (v := (-1 : Int32)) hx hb (dq dt_X4_readSeep 18 rfl) (by decide) ?_
      refine lv_goto (tgt := 43) hx hb (dq dt_X4_readSeep 19 rfl) (by decide) ?_
      exact J14 g6 g7 g8 (-1 : Int32) hF _ _ _ hw (lv_sub hl [1, 0] rfl)
  · replace hF := if_t c3 hF
    refine lv_iconst (v := (0 : Int32)) hx hb (dq dt_X4_readSeep 4 rfl) (by decide) ?_
    cases hF
    exact kRetZ hQ C rfl hw (dq dt_X4_readSeep 5 rfl)
def F_X7_hasRoomForChild (t_children : Int32) : Option (Int32) :=
  if (5 : Int32) ≤ t_children then (some (0 : Int32)) else (some (1 : Int32))
abbrev rm_X7_hasRoomForChild : Room := { frames := 0, cells := 0, slots := 0, locals := 0 }
theorem kd_X7_hasRoomForChild : yX7_hasRoomForChild.cls = RX7 ∧ yX7_hasRoomForChild.cls ≠ "java/lang/invoke/MethodHandle" ∧ yX7_hasRoomForChild.cls ≠ "java/lang/invoke/VarHandle" ∧ (parseMethodDescriptor yX7_hasRoomForChild.desc).map (fun d => d.parameters.length) = some 0 := by decide +kernel
set_option maxRecDepth 100000 in
set_option maxHeartbeats 4000000 in
theorem A_X7_hasRoomForChild (l : Launch) (D : va_G) (cB cI cJ cZ : ClassId) (ad : (Nat → Nat) × (Nat → Nat)) (a_t a_t_tides a_t_seepYard a_t_seepSize a_t_growth a_t_level a_t_kind a_t_childYard a_t_pace a_t_ear : Nat) (t_yards : Int32) (t_seeps : Int32) (t_children : Int32) (r : Int32) (hF : F_X7_hasRoomForChild t_children = some r) : kM l yX7_hasRoomForChild (Cond.code yX7_hasRoomForChild cX7_hasRoomForChild 1 (some .boolean) :: W0) rm_X7_hasRoomForChild D (kT cB cI cJ cZ) ad [.ref a_t] [(a_t, .inr (7, [.int t_yards, .ref a_t_tides, .int t_seeps, .ref a_t_seepYard, .ref a_t_seepSize, .ref a_t_growth, .ref a_t_level, .int t_children, .ref a_t_kind, .ref a_t_childYard, .ref a_t_pace, .ref a_t_ear]))] (some (.int r)) [(a_t, .inr (7, [.int t_yards, .ref a_t_tides, .int t_seeps, .ref a_t_seepYard, .ref a_t_seepSize, .ref a_t_growth, .ref a_t_level, .int t_children, .ref a_t_kind, .ref a_t_childYard, .ref a_t_pace, .ref a_t_ear]))] := by
  unfold F_X7_hasRoomForChild at hF
  refine kStart (lv := [(0, .ref a_t)]) (own := "DikeWatch$Told") (plainFor_of_name (by decide)) rfl (Nat.le_of_ble_eq_true rfl) rfl ?_
  intro p e s m args below meth c A Q ls hQ C hx hb hw hl
  refine lv_aload_n hx hb (dq dt_X7_hasRoomForChild 0 rfl) rfl (lv_at hl 0 rfl) ?_
  refine kGet (ci := 7) C in_X7 hw 0 rfl rfl 7 (by decide) (C.2.2.2.2.2.2.1 _ q1_72) rfl rfl (dq dt_X7_hasRoomForChild 1 rfl) ?_
  refine lv_iconst (v := (5 : Int32)) hx hb (dq dt_X7_hasRoomForChild 2 rfl) (by decide) ?_
  refine lv_icmp_ge (tgt := 12) hx hb (dq dt_X7_hasRoomForChild 3 rfl) (by decide) (fun c1 => ?_) (fun c1 => ?_)
  · replace hF := if_t c1 hF
    refine lv_iconst (v := (0 : Int32)) hx hb (dq dt_X7_hasRoomForChild 6 rfl) (by decide) ?_
    cases hF
    exact kRetZ hQ C rfl hw (dq dt_X7_hasRoomForChild 7 rfl)
  · replace hF := if_f c1 hF
    refine lv_iconst (v := (1 : Int32)) hx hb (dq dt_X7_hasRoomForChild 4 rfl) (by decide) ?_
    refine lv_goto (tgt := 13) hx hb (dq dt_X7_hasRoomForChild 5 rfl) (by decide) ?_
    cases hF
    exact kRetZ hQ C rfl hw (dq dt_X7_hasRoomForChild 7 rfl)
def F_X7_addChild (t_children : Int32) (t_kind : Nat → Int32) (t_childYard : Nat → Int32) (t_pace : Nat → Int32) (t_ear : Nat → Int32) (p1 : Int32) (p2 : Int32) (p3 : Int32) (p4 : Int32) : Option (Int32 × (Nat → Int32) × (Nat → Int32) × (Nat → Int32) × (Nat → Int32)) :=
  zc1 (F_X7_hasRoomForChild t_children) (fun v1 => if v1 = 0 then (some (t_children, t_kind, t_childYard, t_pace, t_ear)) else (wr 5 t_children (upd t_kind (t_children).toNatClampNeg p1) (fun g4 => wr 5 t_children (upd t_childYard (t_children).toNatClampNeg p2) (fun g6 => wr 5 t_children (upd t_pace (t_children).toNatClampNeg p3) (fun g8 => wr 5 t_children (upd t_ear (t_children).toNatClampNeg p4) (fun g10 => bd (t_children + (1 : Int32)) (fun v12 => some (v12, g4, g6, g8, g10))))))))
abbrev rm_X7_addChild : Room := { frames := 1, cells := 0, slots := 0, locals := 20 }
theorem kd_X7_addChild : yX7_addChild.cls = RX7 ∧ yX7_addChild.cls ≠ "java/lang/invoke/MethodHandle" ∧ yX7_addChild.cls ≠ "java/lang/invoke/VarHandle" ∧ (parseMethodDescriptor yX7_addChild.desc).map (fun d => d.parameters.length) = some 4 := by decide +kernel
set_option maxRecDepth 100000 in
set_option maxHeartbeats 4000000 in
theorem A_X7_addChild (l : Launch) (D : va_G) (cB cI cJ cZ : ClassId) (ad : (Nat → Nat) × (Nat → Nat)) (a_t a_t_tides a_t_seepYard a_t_seepSize a_t_growth a_t_level a_t_kind a_t_childYard a_t_pace a_t_ear : Nat) (t_yards : Int32) (t_seeps : Int32) (t_children : Int32) (t_kind : Nat → Int32) (t_childYard : Nat → Int32) (t_pace : Nat → Int32) (t_ear : Nat → Int32) (p1 : Int32) (p2 : Int32) (p3 : Int32) (p4 : Int32) (t_children' : Int32) (t_kind' : Nat → Int32) (t_childYard' : Nat → Int32) (t_pace' : Nat → Int32) (t_ear' : Nat → Int32) (hF : F_X7_addChild t_children t_kind t_childYard t_pace t_ear p1 p2 p3 p4 = some (t_children', t_kind', t_childYard', t_pace', t_ear')) : kM l yX7_addChild (Cond.code yX7_addChild cX7_addChild 5 (none) :: W0) rm_X7_addChild D (kT cB cI cJ cZ) ad [.ref a_t, .int p1, .int p2, .int p3, .int p4] [(a_t, .inr (7, [.int t_yards, .ref a_t_tides, .int t_seeps, .ref a_t_seepYard, .ref a_t_seepSize, .ref a_t_growth, .ref a_t_level, .int t_children, .ref a_t_kind, .ref a_t_childYard, .ref a_t_pace, .ref a_t_ear])), (a_t_kind, .inl (cI, 5, .inl t_kind)), (a_t_childYard, .inl (cI, 5, .inl t_childYard)), (a_t_pace, .inl (cI, 5, .inl t_pace)), (a_t_ear, .inl (cI, 5, .inl t_ear))] none [(a_t, .inr (7, [.int t_yards, .ref a_t_tides, .int t_seeps, .ref a_t_seepYard, .ref a_t_seepSize, .ref a_t_growth, .ref a_t_level, .int (t_children'), .ref a_t_kind, .ref a_t_childYard, .ref a_t_pace, .ref a_t_ear])), (a_t_kind, .inl (cI, 5, .inl (t_kind'))), (a_t_childYard, .inl (cI, 5, .inl (t_childYard'))), (a_t_pace, .inl (cI, 5, .inl (t_pace'))), (a_t_ear, .inl (cI, 5, .inl (t_ear')))] := by
  unfold F_X7_addChild at hF
  refine kStart (lv := [(0, .ref a_t), (1, .int p1), (2, .int p2), (3, .int p3), (4, .int p4)]) (own := "DikeWatch$Told") (plainFor_of_name (by decide)) rfl (Nat.le_of_ble_eq_true rfl) rfl ?_
  intro p e s m args below meth c A Q ls hQ C hx hb hw hl
  refine lv_aload_n hx hb (dq dt_X7_addChild 0 rfl) rfl (lv_at hl 0 rfl) ?_
  obtain ⟨v1, hr2, hF⟩ := zc1_ hF
  refine kCallVR C hw (A_X7_hasRoomForChild l D cB cI cJ cZ ad a_t a_t_tides a_t_seepYard a_t_seepSize a_t_growth a_t_level a_t_kind a_t_childYard a_t_pace a_t_ear t_yards t_seeps t_children v1 hr2) (cwV 0 C.2.2.2.2.2.2.1 (w0_V0 q2_213 q2_218 q2_211 q2_212 q1_3) rfl rfl rfl kd_X7_hasRoomForChild ⟨Nat.le_of_ble_eq_true rfl, Nat.le_of_ble_eq_true rfl⟩) [0] rfl rfl 0 7 rfl rfl hl.1 rfl rfl rfl (Nat.le_of_ble_eq_true rfl) ⟨Nat.le_of_ble_eq_true rfl, Nat.le_of_ble_eq_true rfl⟩ (dq dt_X7_addChild 1 rfl) (fun H locs hw => ?_)
  refine lv_if_ne (tgt := 8) hx hb (dq dt_X7_addChild 2 rfl) (by decide) (fun c3 => ?_) (fun c3 => ?_)
  · replace hF := if_f c3 hF
    refine lv_aload_n hx hb (dq dt_X7_addChild 4 rfl) rfl (lv_at hl 0 rfl) ?_
    refine kGet (ci := 7) C in_X7 hw 0 rfl rfl 8 (by decide) (C.2.2.2.2.2.2.1 _ q1_77) rfl rfl (dq dt_X7_addChild 5 rfl) ?_
    refine lv_aload_n hx hb (dq dt_X7_addChild 6 rfl) rfl (lv_at hl 0 rfl) ?_
    refine kGet (ci := 7) C in_X7 hw 0 rfl rfl 7 (by decide) (C.2.2.2.2.2.2.1 _ q1_72) rfl rfl (dq dt_X7_addChild 7 rfl) ?_
    refine lv_iload_n hx hb (dq dt_X7_addChild 8 rfl) rfl (lv_at hl 1 rfl) ?_
    obtain ⟨g4, eg4, hi5, hF⟩ := wr_ hF
    refine kIast (ws' := [(a_t, .inr (7, [.int t_yards, .ref a_t_tides, .int t_seeps, .ref a_t_seepYard, .ref a_t_seepSize, .ref a_t_growth, .ref a_t_level, .int t_children, .ref a_t_kind, .ref a_t_childYard, .ref a_t_pace, .ref a_t_ear])), (a_t_kind, .inl (cI, 5, .inl g4)), (a_t_childYard, .inl (cI, 5, .inl t_childYard)), (a_t_pace, .inl (cI, 5, .inl t_pace)), (a_t_ear, .inl (cI, 5, .inl t_ear))]) C hw 1 1 rfl rfl hi5 eg4 rfl (dq dt_X7_addChild 9 rfl) (fun H locs hw => ?_)
    refine lv_aload_n hx hb (dq dt_X7_addChild 10 rfl) rfl (lv_at hl 0 rfl) ?_
    refine kGet (ci := 7) C in_X7 hw 0 rfl rfl 9 (by decide) (C.2.2.2.2.2.2.1 _ q1_80) rfl rfl (dq dt_X7_addChild 11 rfl) ?_
    refine lv_aload_n hx hb (dq dt_X7_addChild 12 rfl) rfl (lv_at hl 0 rfl) ?_
    refine kGet (ci := 7) C in_X7 hw 0 rfl rfl 7 (by decide) (C.2.2.2.2.2.2.1 _ q1_72) rfl rfl (dq dt_X7_addChild 13 rfl) ?_
    refine lv_iload_n hx hb (dq dt_X7_addChild 14 rfl) rfl (lv_at hl 2 rfl) ?_
    obtain ⟨g6, eg6, hi7, hF⟩ := wr_ hF
    refine kIast (ws' := [(a_t, .inr (7, [.int t_yards, .ref a_t_tides, .int t_seeps, .ref a_t_seepYard, .ref a_t_seepSize, .ref a_t_growth, .ref a_t_level, .int t_children, .ref a_t_kind, .ref a_t_childYard, .ref a_t_pace, .ref a_t_ear])), (a_t_kind, .inl (cI, 5, .inl g4)), (a_t_childYard, .inl (cI, 5, .inl g6)), (a_t_pace, .inl (cI, 5, .inl t_pace)), (a_t_ear, .inl (cI, 5, .inl t_ear))]) C hw 2 1 rfl rfl hi7 eg6 rfl (dq dt_X7_addChild 15 rfl) (fun H locs hw => ?_)
    refine lv_aload_n hx hb (dq dt_X7_addChild 16 rfl) rfl (lv_at hl 0 rfl) ?_
    refine kGet (ci := 7) C in_X7 hw 0 rfl rfl 10 (by decide) (C.2.2.2.2.2.2.1 _ q1_82) rfl rfl (dq dt_X7_addChild 17 rfl) ?_
    refine lv_aload_n hx hb (dq dt_X7_addChild 18 rfl) rfl (lv_at hl 0 rfl) ?_
    refine kGet (ci := 7) C in_X7 hw 0 rfl rfl 7 (by decide) (C.2.2.2.2.2.2.1 _ q1_72) rfl rfl (dq dt_X7_addChild 19 rfl) ?_
    refine lv_iload_n hx hb (dq dt_X7_addChild 20 rfl) rfl (lv_at hl 3 rfl) ?_
    obtain ⟨g8, eg8, hi9, hF⟩ := wr_ hF
    refine kIast (ws' := [(a_t, .inr (7, [.int t_yards, .ref a_t_tides, .int t_seeps, .ref a_t_seepYard, .ref a_t_seepSize, .ref a_t_growth, .ref a_t_level, .int t_children, .ref a_t_kind, .ref a_t_childYard, .ref a_t_pace, .ref a_t_ear])), (a_t_kind, .inl (cI, 5, .inl g4)), (a_t_childYard, .inl (cI, 5, .inl g6)), (a_t_pace, .inl (cI, 5, .inl g8)), (a_t_ear, .inl (cI, 5, .inl t_ear))]) C hw 3 1 rfl rfl hi9 eg8 rfl (dq dt_X7_addChild 21 rfl) (fun H locs hw => ?_)
    refine lv_aload_n hx hb (dq dt_X7_addChild 22 rfl) rfl (lv_at hl 0 rfl) ?_
    refine kGet (ci := 7) C in_X7 hw 0 rfl rfl 11 (by decide) (C.2.2.2.2.2.2.1 _ q1_85) rfl rfl (dq dt_X7_addChild 23 rfl) ?_
    refine lv_aload_n hx hb (dq dt_X7_addChild 24 rfl) rfl (lv_at hl 0 rfl) ?_
    refine kGet (ci := 7) C in_X7 hw 0 rfl rfl 7 (by decide) (C.2.2.2.2.2.2.1 _ q1_72) rfl rfl (dq dt_X7_addChild 25 rfl) ?_
    refine lv_iload hx hb (dq dt_X7_addChild 26 rfl) (lv_at hl 4 rfl) ?_
    obtain ⟨g10, eg10, hi11, hF⟩ := wr_ hF
    refine kIast (ws' := [(a_t, .inr (7, [.int t_yards, .ref a_t_tides, .int t_seeps, .ref a_t_seepYard, .ref a_t_seepSize, .ref a_t_growth, .ref a_t_level, .int t_children, .ref a_t_kind, .ref a_t_childYard, .ref a_t_pace, .ref a_t_ear])), (a_t_kind, .inl (cI, 5, .inl g4)), (a_t_childYard, .inl (cI, 5, .inl g6)), (a_t_pace, .inl (cI, 5, .inl g8)), (a_t_ear, .inl (cI, 5, .inl g10))]) C hw 4 1 rfl rfl hi11 eg10 rfl (dq dt_X7_addChild 27 rfl) (fun H locs hw => ?_)
    refine lv_aload_n hx hb (dq dt_X7_addChild 28 rfl) rfl (lv_at hl 0 rfl) ?_
    refine lv_dup hx hb (dq dt_X7_addChild 29 rfl) rfl ?_
    refine kGet (ci := 7) C in_X7 hw 0 rfl rfl 7 (by decide) (C.2.2.2.2.2.2.1 _ q1_72) rfl rfl (dq dt_X7_addChild 30 rfl) ?_
    refine lv_iconst (v := (1 : Int32)) hx hb (dq dt_X7_addChild 31 rfl) (by decide) ?_
    refine lv_iadd hx hb (dq dt_X7_addChild 32 rfl) ?_
    obtain ⟨v12, ev12, hF⟩ := bd_ hF
    refine kNmI ev12 ?_
    refine kPut (ci := 7) (ws' := [(a_t, .inr (7, [.int t_yards, .ref a_t_tides, .int t_seeps, .ref a_t_seepYard, .ref a_t_seepSize, .ref a_t_growth, .ref a_t_level, .int v12, .ref a_t_kind, .ref a_t_childYard, .ref a_t_pace, .ref a_t_ear])), (a_t_kind, .inl (cI, 5, .inl g4)), (a_t_childYard, .inl (cI, 5, .inl g6)), (a_t_pace, .inl (cI, 5, .inl g8)), (a_t_ear, .inl (cI, 5, .inl g10))]) C in_X7 tyX7 tyX7_ok nmX7 hw 0 rfl rfl 7 (by decide) (C.2.2.2.2.2.2.1 _ q1_72) rfl rfl rfl rfl (Nat.le_of_ble_eq_true rfl) rfl (dq dt_X7_addChild 33 rfl) (fun H locs hw => ?_)
    cases hF
    exact kRetV hQ C hw (dq dt_X7_addChild 34 rfl)
  · replace hF := if_t c3 hF
    cases hF
    exact kRetV hQ C hw (dq dt_X7_addChild 3 rfl)
def F_X4_readChild (x_length : Int32) (x_signs : Nat → Int32) (g_yards : Int32) (g_children : Int32) (g_kind : Nat → Int32) (g_childYard : Nat → Int32) (g_pace : Nat → Int32) (g_ear : Nat → Int32) (r_sort : Int32) (r_begin : Int32) (r_end : Int32) (p1 : Int32) : Option (Int32 × Int32 × (Nat → Int32) × (Nat → Int32) × (Nat → Int32) × (Nat → Int32) × Int32 × Int32 × Int32) :=
  zc1 (F_X7_hasRoomForChild g_children) (fun v1 => if v1 = 0 then (some ((0 : Int32), g_children, g_kind, g_childYard, g_pace, g_ear, r_sort, r_begin, r_end)) else (bd (g_yards - (1 : Int32)) (fun v4 => zc4 (F_X4_readNumber x_length x_signs r_sort r_begin r_end (0 : Int32) v4) (fun v5 g6 g7 g8 => zj4 (fun h10 h11 h12 y13 => zj4 (fun h15 h16 h17 y18 => if y18 = (-1 : Int32) then (some ((0 : Int32), g_children, g_kind, g_childYard, g_pace, g_ear, h15, h16, h17)) else (zc5 (F_X7_addChild g_children g_kind g_childYard g_pace g_ear p1 v5 y13 y18) (fun g21 g22 g23 g24 g25 => some ((1 : Int32), g21, g22, g23, g24, g25, h15, h16, h17)))) (fun K19 => if y13 = (-1 : Int32) then (K19 h10 h11 h12 (-1 : Int32)) else (zc4 (F_X4_readNumber x_length x_signs h10 h11 h12 (0 : Int32) (9 : Int32)) (fun v28 g29 g30 g31 => K19 g29 g30 g31 v28)))) (fun K14 => if v5 = (-1 : Int32) then (K14 g6 g7 g8 (-1 : Int32)) else (zc4 (F_X4_readNumber x_length x_signs g6 g7 g8 (0 : Int32) (3 : Int32)) (fun v34 g35 g36 g37 => K14 g35 g36 g37 v34)))))))
abbrev rm_X4_readChild : Room := { frames := 3, cells := 0, slots := 0, locals := 66 }
theorem kd_X4_readChild : yX4_readChild.cls = RX4 ∧ yX4_readChild.cls ≠ "java/lang/invoke/MethodHandle" ∧ yX4_readChild.cls ≠ "java/lang/invoke/VarHandle" ∧ (parseMethodDescriptor yX4_readChild.desc).map (fun d => d.parameters.length) = some 1 := by decide +kernel
set_option maxRecDepth 100000 in
set_option maxHeartbeats 4000000 in
theorem A_X4_readChild (l : Launch) (D : va_G) (cB cI cJ cZ : ClassId) (ad : (Nat → Nat) × (Nat → Nat)) (a_x a_x_signs a_g a_g_tides a_g_seepYard a_g_seepSize a_g_growth a_g_level a_g_kind a_g_childYard a_g_pace a_g_ear a_r : Nat) (x_length : Int32) (x_signs : Nat → Int32) (g_yards : Int32) (g_seeps : Int32) (g_children : Int32) (g_kind : Nat → Int32) (g_childYard : Nat → Int32) (g_pace : Nat → Int32) (g_ear : Nat → Int32) (r_sort : Int32) (r_begin : Int32) (r_end : Int32) (r_lines : Int32) (p1 : Int32) (r : Int32) (g_children' : Int32) (g_kind' : Nat → Int32) (g_childYard' : Nat → Int32) (g_pace' : Nat → Int32) (g_ear' : Nat → Int32) (r_sort' : Int32) (r_begin' : Int32) (r_end' : Int32) (hF : F_X4_readChild x_length x_signs g_yards g_children g_kind g_childYard g_pace g_ear r_sort r_begin r_end p1 = some (r, g_children', g_kind', g_childYard', g_pace', g_ear', r_sort', r_begin', r_end')) : kM l yX4_readChild (Cond.code yX4_readChild cX4_readChild 5 (some .boolean) :: W0) rm_X4_readChild D (kT cB cI cJ cZ) ad [.ref a_r, .int p1] [(a_x, .inr (6, [.ref a_x_signs, .int x_length])), (a_x_signs, .inl (cB, 200, .inl x_signs)), (a_g, .inr (7, [.int g_yards, .ref a_g_tides, .int g_seeps, .ref a_g_seepYard, .ref a_g_seepSize, .ref a_g_growth, .ref a_g_level, .int g_children, .ref a_g_kind, .ref a_g_childYard, .ref a_g_pace, .ref a_g_ear])), (a_g_kind, .inl (cI, 5, .inl g_kind)), (a_g_childYard, .inl (cI, 5, .inl g_childYard)), (a_g_pace, .inl (cI, 5, .inl g_pace)), (a_g_ear, .inl (cI, 5, .inl g_ear)), (a_r, .inr (4, [.ref a_x, .ref a_g, .int r_sort, .int r_begin, .int r_end, .int r_lines]))] (some (.int r)) [(a_x, .inr (6, [.ref a_x_signs, .int x_length])), (a_x_signs, .inl (cB, 200, .inl x_signs)), (a_g, .inr (7, [.int g_yards, .ref a_g_tides, .int g_seeps, .ref a_g_seepYard, .ref a_g_seepSize, .ref a_g_growth, .ref a_g_level, .int (g_children'), .ref a_g_kind, .ref a_g_childYard, .ref a_g_pace, .ref a_g_ear])), (a_g_kind, .inl (cI, 5, .inl (g_kind'))), (a_g_childYard, .inl (cI, 5, .inl (g_childYard'))), (a_g_pace, .inl (cI, 5, .inl (g_pace'))), (a_g_ear, .inl (cI, 5, .inl (g_ear'))), (a_r, .inr (4, [.ref a_x, .ref a_g, .int (r_sort'), .int (r_begin'), .int (r_end'), .int r_lines]))] := by
  unfold F_X4_readChild at hF
  refine kStart (lv := [(0, .ref a_r), (1, .int p1)]) (own := "DikeWatch$Reader") (plainFor_of_name (by decide)) rfl (Nat.le_of_ble_eq_true rfl) rfl ?_
  intro p e s m args below meth c A Q ls hQ C hx hb hw hl
  refine lv_aload_n hx hb (dq dt_X4_readChild 0 rfl) rfl (lv_at hl 0 rfl) ?_
  refine kGet (ci := 4) C in_X4 hw 7 rfl rfl 1 (by decide) (C.2.2.2.2.2.2.1 _ q1_177) rfl rfl (dq dt_X4_readChild 1 rfl) ?_
  obtain ⟨v1, hr2, hF⟩ := zc1_ hF
  refine kCallVR C hw (A_X7_hasRoomForChild l D cB cI cJ cZ ad a_g a_g_tides a_g_seepYard a_g_seepSize a_g_growth a_g_level a_g_kind a_g_childYard a_g_pace a_g_ear g_yards g_seeps g_children v1 hr2) (cwV 0 C.2.2.2.2.2.2.1 (w0_V0 q2_213 q2_210 q2_211 q2_212 q1_3) rfl rfl rfl kd_X7_hasRoomForChild ⟨Nat.le_of_ble_eq_true rfl, Nat.le_of_ble_eq_true rfl⟩) [2] rfl rfl 2 7 rfl rfl hl.1 rfl rfl rfl (Nat.le_of_ble_eq_true rfl) ⟨Nat.le_of_ble_eq_true rfl, Nat.le_of_ble_eq_true rfl⟩ (dq dt_X4_readChild 2 rfl) (fun H locs hw => ?_)
  refine lv_if_ne (tgt := 12) hx hb (dq dt_X4_readChild 3 rfl) (by decide) (fun c3 => ?_) (fun c3 => ?_)
  · replace hF := if_f c3 hF
    refine lv_aload_n hx hb (dq dt_X4_readChild 6 rfl) rfl (lv_at hl 0 rfl) ?_
    refine lv_iconst (v := (0 : Int32)) hx hb (dq dt_X4_readChild 7 rfl) (by decide) ?_
    refine lv_aload_n hx hb (dq dt_X4_readChild 8 rfl) rfl (lv_at hl 0 rfl) ?_
    refine kGet (ci := 4) C in_X4 hw 7 rfl rfl 1 (by decide) (C.2.2.2.2.2.2.1 _ q1_177) rfl rfl (dq dt_X4_readChild 9 rfl) ?_
    refine kGet (ci := 7) C in_X7 hw 2 rfl rfl 0 (by decide) (C.2.2.2.2.2.2.1 _ q1_53) rfl rfl (dq dt_X4_readChild 10 rfl) ?_
    refine lv_iconst (v := (1 : Int32)) hx hb (dq dt_X4_readChild 11 rfl) (by decide) ?_
    refine lv_isub hx hb (dq dt_X4_readChild 12 rfl) ?_
    obtain ⟨v4, ev4, hF⟩ := bd_ hF
    refine kNmI ev4 ?_
    obtain ⟨v5, g6, g7, g8, hr9, hF⟩ := zc4_ hF
    refine kCallV (ws2 := [(a_x, .inr (6, [.ref a_x_signs, .int x_length])), (a_x_signs, .inl (cB, 200, .inl x_signs)), (a_g, .inr (7, [.int g_yards, .ref a_g_tides, .int g_seeps, .ref a_g_seepYard, .ref a_g_seepSize, .ref a_g_growth, .ref a_g_level, .int g_children, .ref a_g_kind, .ref a_g_childYard, .ref a_g_pace, .ref a_g_ear])), (a_g_kind, .inl (cI, 5, .inl g_kind)), (a_g_childYard, .inl (cI, 5, .inl g_childYard)), (a_g_pace, .inl (cI, 5, .inl g_pace)), (a_g_ear, .inl (cI, 5, .inl g_ear)), (a_r, .inr (4, [.ref a_x, .ref a_g, .int g6, .int g7, .int g8, .int r_lines]))]) C hw (A_X4_readNumber l D cB cI cJ cZ ad a_x a_x_signs a_r a_g x_length x_signs r_sort r_begin r_end r_lines (0 : Int32) v4 v5 g6 g7 g8 hr9) (cwV 2 C.2.2.2.2.2.2.1 (w0_V0 q2_168 q2_165 q2_167 (ws0 4 rfl) q1_6) rfl rfl rfl kd_X4_readNumber ⟨Nat.le_of_ble_eq_true rfl, Nat.le_of_ble_eq_true rfl⟩) [0, 1, 7] rfl rfl rfl rfl 7 4 rfl rfl hl.1 rfl rfl rfl (Nat.le_of_ble_eq_true rfl) ⟨Nat.le_of_ble_eq_true rfl, Nat.le_of_ble_eq_true rfl⟩ (dq dt_X4_readChild 13 rfl) (fun H locs hw => ?_)
    refine lv_istore_n (lv' := [(2, .int v5), (0, .ref a_r), (1, .int p1)]) hx hb (dq dt_X4_readChild 14 rfl) rfl hl (by decide) rfl (fun ls hl => ?_)
    refine lv_iload_n hx hb (dq dt_X4_readChild 15 rfl) rfl (lv_at hl 0 rfl) ?_
    refine lv_iconst (v := (-1 : Int32)) hx hb (dq dt_X4_readChild 16 rfl) (by decide) ?_
    obtain ⟨K14, hK14, hF⟩ := zj4_ hF
    have J14 : ∀ (h10 : Int32) (h11 : Int32) (h12 : Int32) (y13 : Int32), K14 h10 h11 h12 y13 = some (r, g_children', g_kind', g_childYard', g_pace', g_ear', r_sort', r_begin', r_end') → ∀ (H : Heap) (locs : List Loc) (ls : Array Slot), kW D A s.heap [(a_x, .inr (6, [.ref a_x_signs, .int x_length])), (a_x_signs, .inl (cB, 200, .inl x_signs)), (a_g, .inr (7, [.int g_yards, .ref a_g_tides, .int g_seeps, .ref a_g_seepYard, .ref a_g_seepSize, .ref a_g_growth, .ref a_g_level, .int g_children, .ref a_g_kind, .ref a_g_childYard, .ref a_g_pace, .ref a_g_ear])), (a_g_kind, .inl (cI, 5, .inl g_kind)), (a_g_childYard, .inl (cI, 5, .inl g_childYard)), (a_g_pace, .inl (cI, 5, .inl g_pace)), (a_g_ear, .inl (cI, 5, .inl g_ear)), (a_r, .inr (4, [.ref a_x, .ref a_g, .int h10, .int h11, .int h12, .int r_lines]))] H locs → lv_has ls 5 [(0, .ref a_r), (1, .int p1), (2, .int v5)] → W p l e rm_X4_readChild s m args below meth c H locs 0 0 Q (F0 m 42 ls [.int y13]) := by
      intro h10 h11 h12 y13 hF H locs ls hw hl
      replace hF := hK14 h10 h11 h12 y13 hF
      refine lv_istore_n (lv' := [(3, .int y13), (0, .ref a_r), (1, .int p1), (2, .int v5)]) hx hb (dq dt_X4_readChild 24 rfl) rfl hl (by decide) rfl (fun ls hl => ?_)
      refine lv_iload_n hx hb (dq dt_X4_readChild 25 rfl) rfl (lv_at hl 0 rfl) ?_
      refine lv_iconst (v := (-1 : Int32)) hx hb (dq dt_X4_readChild 26 rfl) (by decide) ?_
      obtain ⟨K19, hK19, hF⟩ := zj4_ hF
      have J19 : ∀ (h15 : Int32) (h16 : Int32) (h17 : Int32) (y18 : Int32), K19 h15 h16 h17 y18 = some (r, g_children', g_kind', g_childYard', g_pace', g_ear', r_sort', r_begin', r_end') → ∀ (H : Heap) (locs : List Loc) (ls : Array Slot), kW D A s.heap [(a_x, .inr (6, [.ref a_x_signs, .int x_length])), (a_x_signs, .inl (cB, 200, .inl x_signs)), (a_g, .inr (7, [.int g_yards, .ref a_g_tides, .int g_seeps, .ref a_g_seepYard, .ref a_g_seepSize, .ref a_g_growth, .ref a_g_level, .int g_children, .ref a_g_kind, .ref a_g_childYard, .ref a_g_pace, .ref a_g_ear])), (a_g_kind, .inl (cI, 5, .inl g_kind)), (a_g_childYard, .inl (cI, 5, .inl g_childYard)), (a_g_pace, .inl (cI, 5, .inl g_pace)), (a_g_ear, .inl (cI, 5, .inl g_ear)), (a_r, .inr (4, [.ref a_x, .ref a_g, .int h15, .int h16, .int h17, .int r_lines]))] H locs → lv_has ls 5 [(0, .ref a_r), (1, .int p1), (2, .int v5), (3, .int y13)] → W p l e rm_X4_readChild s m args below meth c H locs 0 0 Q (F0 m 59 ls [.int y18]) := by
        intro h15 h16 h17 y18 hF H locs ls hw hl
        replace hF := hK19 h15 h16 h17 y18 hF
        refine lv_istore (lv' := [(4, .int y18), (0, .ref a_r), (1, .int p1), (2, .int v5), (3, .int y13)]) hx hb (dq dt_X4_readChild 34 rfl) hl (by decide) rfl (fun ls hl => ?_)
        refine lv_iload hx hb (dq dt_X4_readChild 35 rfl) (lv_at hl 0 rfl) ?_
        refine lv_iconst (v := (-1 : Int32)) hx hb (dq dt_X4_readChild 36 rfl) (by decide) ?_
        refine lv_icmp_ne (tgt := 69) hx hb (dq dt_X4_readChild 37 rfl) (by decide) (fun c20 => ?_) (fun c20 => ?_)
        · replace hF := if_f c20 hF
          refine lv_aload_n hx hb (dq dt_X4_readChild 40 rfl) rfl (lv_at hl 1 rfl) ?_
          refine kGet (ci := 4) C in_X4 hw 7 rfl rfl 1 (by decide) (C.2.2.2.2.2.2.1 _ q1_177) rfl rfl (dq dt_X4_readChild 41 rfl) ?_
          refine lv_iload_n hx hb (dq dt_X4_readChild 42 rfl) rfl (lv_at hl 2 rfl) ?_
          refine lv_iload_n hx hb (dq dt_X4_readChild 43 rfl) rfl (lv_at hl 3 rfl) ?_
          refine lv_iload_n hx hb (dq dt_X4_readChild 44 rfl) rfl (lv_at hl 4 rfl) ?_
          refine lv_iload hx hb (dq dt_X4_readChild 45 rfl) (lv_at hl 0 rfl) ?_
          obtain ⟨g21, g22, g23, g24, g25, hr26, hF⟩ := zc5_ hF
          refine kCallV (ws2 := [(a_x, .inr (6, [.ref a_x_signs, .int x_length])), (a_x_signs, .inl (cB, 200, .inl x_signs)), (a_g, .inr (7, [.int g_yards, .ref a_g_tides, .int g_seeps, .ref a_g_seepYard, .ref a_g_seepSize, .ref a_g_growth, .ref a_g_level, .int g21, .ref a_g_kind, .ref a_g_childYard, .ref a_g_pace, .ref a_g_ear])), (a_g_kind, .inl (cI, 5, .inl g22)), (a_g_childYard, .inl (cI, 5, .inl g23)), (a_g_pace, .inl (cI, 5, .inl g24)), (a_g_ear, .inl (cI, 5, .inl g25)), (a_r, .inr (4, [.ref a_x, .ref a_g, .int h15, .int h16, .int h17, .int r_lines]))]) C hw (A_X7_addChild l D cB cI cJ cZ ad a_g a_g_tides a_g_seepYard a_g_seepSize a_g_growth a_g_level a_g_kind a_g_childYard a_g_pace a_g_ear g_yards g_seeps g_children g_kind g_childYard g_pace g_ear p1 v5 y13 y18 g21 g22 g23 g24 g25 hr26) (cwV 4 C.2.2.2.2.2.2.1 (w0_V0 q2_217 q2_214 q2_215 q2_216 q1_3) rfl rfl rfl kd_X7_addChild ⟨Nat.le_of_ble_eq_true rfl, Nat.le_of_ble_eq_true rfl⟩) [2, 3, 4, 5, 6] rfl rfl rfl rfl 2 7 rfl rfl hl.1 rfl rfl rfl (Nat.le_of_ble_eq_true rfl) ⟨Nat.le_of_ble_eq_true rfl, Nat.le_of_ble_eq_true rfl⟩ (dq dt_X4_readChild 46 rfl) (fun H locs hw => ?_)
          refine lv_iconst (v := (1 : Int32)) hx hb (dq dt_X4_readChild 47 rfl) (by decide) ?_
          cases hF
          exact kRetZ hQ C rfl hw (dq dt_X4_readChild 48 rfl)
        · replace hF := if_t c20 hF
          refine lv_iconst (v := (0 : Int32)) hx hb (dq dt_X4_readChild 38 rfl) (by decide) ?_
          cases hF
          exact kRetZ hQ C rfl hw (dq dt_X4_readChild 39 rfl)
      refine lv_icmp_ne (tgt := 52) hx hb (dq dt_X4_readChild 27 rfl) (by decide) (fun c27 => ?_) (fun c27 => ?_)
      · replace hF := if_f c27 hF
        refine lv_aload_n hx hb (dq dt_X4_readChild 30 rfl) rfl (lv_at hl 1 rfl) ?_
        refine lv_iconst (v := (0 : Int32)) hx hb (dq dt_X4_readChild 31 rfl) (by decide) ?_
        refine lv_bipush (v := (9 : Int32)) hx hb (dq dt_X4_readChild 32 rfl) (by decide) ?_
        obtain ⟨v28, g29, g30, g31, hr32, hF⟩ := zc4_ hF
        refine kCallV (ws2 := [(a_x, .inr (6, [.ref a_x_signs, .int x_length])), (a_x_signs, .inl (cB, 200, .inl x_signs)), (a_g, .inr (7, [.int g_yards, .ref a_g_tides, .int g_seeps, .ref a_g_seepYard, .ref a_g_seepSize, .ref a_g_growth, .ref a_g_level, .int g_children, .ref a_g_kind, .ref a_g_childYard, .ref a_g_pace, .ref a_g_ear])), (a_g_kind, .inl (cI, 5, .inl g_kind)), (a_g_childYard, .inl (cI, 5, .inl g_childYard)), (a_g_pace, .inl (cI, 5, .inl g_pace)), (a_g_ear, .inl (cI, 5, .inl g_ear)), (a_r, .inr (4, [.ref a_x, .ref a_g, .int g29, .int g30, .int g31, .int r_lines]))]) C hw (A_X4_readNumber l D cB cI cJ cZ ad a_x a_x_signs a_r a_g x_length x_signs h10 h11 h12 r_lines (0 : Int32) (9 : Int32) v28 g29 g30 g31 hr32) (cwV 2 C.2.2.2.2.2.2.1 (w0_V0 q2_168 q2_165 q2_167 (ws0 4 rfl) q1_6) rfl rfl rfl kd_X4_readNumber ⟨Nat.le_of_ble_eq_true rfl, Nat.le_of_ble_eq_true rfl⟩) [0, 1, 7] rfl rfl rfl rfl 7 4 rfl rfl hl.1 rfl rfl rfl (Nat.le_of_ble_eq_true rfl) ⟨Nat.le_of_ble_eq_true rfl, Nat.le_of_ble_eq_true rfl⟩ (dq dt_X4_readChild 33 rfl) (fun H locs hw => ?_)
        exact J19 g29 g30 g31 v28 hF _ _ _ hw (lv_sub hl [1, 2, 3, 0] rfl)
      · replace hF := if_t c27 hF
        refine lv_iconst (v := (-1 : Int32)) hx hb (dq dt_X4_readChild 28 rfl) (by decide) ?_
        refine lv_goto (tgt := 59) hx hb (dq dt_X4_readChild 29 rfl) (by decide) ?_
        exact J19 h10 h11 h12 (-1 : Int32) hF _ _ _ hw (lv_sub hl [1, 2, 3, 0] rfl)
    refine lv_icmp_ne (tgt := 36) hx hb (dq dt_X4_readChild 17 rfl) (by decide) (fun c33 => ?_) (fun c33 => ?_)
    · replace hF := if_f c33 hF
      refine lv_aload_n hx hb (dq dt_X4_readChild 20 rfl) rfl (lv_at hl 1 rfl) ?_
      refine lv_iconst (v := (0 : Int32)) hx hb (dq dt_X4_readChild 21 rfl) (by decide) ?_
      refine lv_iconst (v := (3 : Int32)) hx hb (dq dt_X4_readChild 22 rfl) (by decide) ?_
      obtain ⟨v34, g35, g36, g37, hr38, hF⟩ := zc4_ hF
      refine kCallV (ws2 := [(a_x, .inr (6, [.ref a_x_signs, .int x_length])), (a_x_signs, .inl (cB, 200, .inl x_signs)), (a_g, .inr (7, [.int g_yards, .ref a_g_tides, .int g_seeps, .ref a_g_seepYard, .ref a_g_seepSize, .ref a_g_growth, .ref a_g_level, .int g_children, .ref a_g_kind, .ref a_g_childYard, .ref a_g_pace, .ref a_g_ear])), (a_g_kind, .inl (cI, 5, .inl g_kind)), (a_g_childYard, .inl (cI, 5, .inl g_childYard)), (a_g_pace, .inl (cI, 5, .inl g_pace)), (a_g_ear, .inl (cI, 5, .inl g_ear)), (a_r, .inr (4, [.ref a_x, .ref a_g, .int g35, .int g36, .int g37, .int r_lines]))]) C hw (A_X4_readNumber l D cB cI cJ cZ ad a_x a_x_signs a_r a_g x_length x_signs g6 g7 g8 r_lines (0 : Int32) (3 : Int32) v34 g35 g36 g37 hr38) (cwV 2 C.2.2.2.2.2.2.1 (w0_V0 q2_168 q2_165 q2_167 (ws0 4 rfl) q1_6) rfl rfl rfl kd_X4_readNumber ⟨Nat.le_of_ble_eq_true rfl, Nat.le_of_ble_eq_true rfl⟩) [0, 1, 7] rfl rfl rfl rfl 7 4 rfl rfl hl.1 rfl rfl rfl (Nat.le_of_ble_eq_true rfl) ⟨Nat.le_of_ble_eq_true rfl, Nat.le_of_ble_eq_true rfl⟩ (dq dt_X4_readChild 23 rfl) (fun H locs hw => ?_)
      exact J14 g35 g36 g37 v34 hF _ _ _ hw (lv_sub hl [1, 2, 0] rfl)
    · replace hF := if_t c33 hF
      refine lv_iconst (v := (-1 : Int32)) hx hb (dq dt_X4_readChild 18 rfl) (by decide) ?_
      refine lv_goto (tgt := 42) hx hb (dq dt_X4_readChild 19 rfl) (by decide) ?_
      exact J14 g6 g7 g8 (-1 : Int32) hF _ _ _ hw (lv_sub hl [1, 2, 0] rfl)
  · replace hF := if_t c3 hF
    refine lv_iconst (v := (0 : Int32)) hx hb (dq dt_X4_readChild 4 rfl) (by decide) ?_
    cases hF
    exact kRetZ hQ C rfl hw (dq dt_X4_readChild 5 rfl)
def F_X3_begin (t_seepSize : Nat → Int32) (t_childYard : Nat → Int32) (n_hours : Int32) (n_filled : Int32) (n_toLesser : Int32) (n_size : Nat → Int32) (n_yard : Nat → Int32) (n_oranges : Nat → Int32) : Option (Int32 × Int32 × Int32 × (Nat → Int32) × (Nat → Int32) × (Nat → Int32)) :=
  bd (va_cpy t_seepSize n_size 0 0 6) (fun g1 => bd (va_cpy t_childYard n_yard 0 0 5) (fun g2 => zc1 (F_J7_fill_53178 n_oranges 5 (0 : Int32)) (fun g3 => some ((0 : Int32), (0 : Int32), (0 : Int32), g1, g2, g3))))
abbrev rm_X3_begin : Room := { frames := 1, cells := 0, slots := 0, locals := 40 }
theorem kd_X3_begin : yX3_begin.cls = RX3 ∧ yX3_begin.cls ≠ "java/lang/invoke/MethodHandle" ∧ yX3_begin.cls ≠ "java/lang/invoke/VarHandle" ∧ (parseMethodDescriptor yX3_begin.desc).map (fun d => d.parameters.length) = some 0 := by decide +kernel
set_option maxRecDepth 100000 in
set_option maxHeartbeats 4000000 in
theorem A_X3_begin (l : Launch) (D : va_G) (cB cI cJ cZ : ClassId) (ad : (Nat → Nat) × (Nat → Nat)) (a_t a_t_tides a_t_seepYard a_t_seepSize a_t_growth a_t_level a_t_kind a_t_childYard a_t_pace a_t_ear a_n a_n_size a_n_yard a_n_oranges : Nat) (t_yards : Int32) (t_seeps : Int32) (t_children : Int32) (t_seepSize : Nat → Int32) (t_childYard : Nat → Int32) (n_hours : Int32) (n_filled : Int32) (n_toLesser : Int32) (n_size : Nat → Int32) (n_yard : Nat → Int32) (n_oranges : Nat → Int32) (n_hours' : Int32) (n_filled' : Int32) (n_toLesser' : Int32) (n_size' : Nat → Int32) (n_yard' : Nat → Int32) (n_oranges' : Nat → Int32) (hF : F_X3_begin t_seepSize t_childYard n_hours n_filled n_toLesser n_size n_yard n_oranges = some (n_hours', n_filled', n_toLesser', n_size', n_yard', n_oranges')) : kM l yX3_begin (Cond.code yX3_begin cX3_begin 1 (none) :: W0) rm_X3_begin D (kT cB cI cJ cZ) ad [.ref a_n] [(a_t, .inr (7, [.int t_yards, .ref a_t_tides, .int t_seeps, .ref a_t_seepYard, .ref a_t_seepSize, .ref a_t_growth, .ref a_t_level, .int t_children, .ref a_t_kind, .ref a_t_childYard, .ref a_t_pace, .ref a_t_ear])), (a_t_seepSize, .inl (cI, 6, .inl t_seepSize)), (a_t_childYard, .inl (cI, 5, .inl t_childYard)), (a_n, .inr (3, [.ref a_t, .int n_hours, .int n_filled, .ref a_n_size, .ref a_n_yard, .int n_toLesser, .ref a_n_oranges])), (a_n_size, .inl (cI, 6, .inl n_size)), (a_n_yard, .inl (cI, 5, .inl n_yard)), (a_n_oranges, .inl (cI, 5, .inl n_oranges))] none [(a_t, .inr (7, [.int t_yards, .ref a_t_tides, .int t_seeps, .ref a_t_seepYard, .ref a_t_seepSize, .ref a_t_growth, .ref a_t_level, .int t_children, .ref a_t_kind, .ref a_t_childYard, .ref a_t_pace, .ref a_t_ear])), (a_t_seepSize, .inl (cI, 6, .inl t_seepSize)), (a_t_childYard, .inl (cI, 5, .inl t_childYard)), (a_n, .inr (3, [.ref a_t, .int (n_hours'), .int (n_filled'), .ref a_n_size, .ref a_n_yard, .int (n_toLesser'), .ref a_n_oranges])), (a_n_size, .inl (cI, 6, .inl (n_size'))), (a_n_yard, .inl (cI, 5, .inl (n_yard'))), (a_n_oranges, .inl (cI, 5, .inl (n_oranges')))] := by
  unfold F_X3_begin at hF
  refine kStart (lv := [(0, .ref a_n)]) (own := "DikeWatch$Night") (plainFor_of_name (by decide)) rfl (Nat.le_of_ble_eq_true rfl) rfl ?_
  intro p e s m args below meth c A Q ls hQ C hx hb hw hl
  refine lv_aload_n hx hb (dq dt_X3_begin 0 rfl) rfl (lv_at hl 0 rfl) ?_
  refine lv_iconst (v := (0 : Int32)) hx hb (dq dt_X3_begin 1 rfl) (by decide) ?_
  refine kPut (ci := 3) (ws' := [(a_t, .inr (7, [.int t_yards, .ref a_t_tides, .int t_seeps, .ref a_t_seepYard, .ref a_t_seepSize, .ref a_t_growth, .ref a_t_level, .int t_children, .ref a_t_kind, .ref a_t_childYard, .ref a_t_pace, .ref a_t_ear])), (a_t_seepSize, .inl (cI, 6, .inl t_seepSize)), (a_t_childYard, .inl (cI, 5, .inl t_childYard)), (a_n, .inr (3, [.ref a_t, .int (0 : Int32), .int n_filled, .ref a_n_size, .ref a_n_yard, .int n_toLesser, .ref a_n_oranges])), (a_n_size, .inl (cI, 6, .inl n_size)), (a_n_yard, .inl (cI, 5, .inl n_yard)), (a_n_oranges, .inl (cI, 5, .inl n_oranges))]) C in_X3 tyX3 tyX3_ok nmX3 hw 3 rfl rfl 1 (by decide) (C.2.2.2.2.2.2.1 _ q1_120) rfl rfl rfl rfl (Nat.le_of_ble_eq_true rfl) rfl (dq dt_X3_begin 2 rfl) (fun H locs hw => ?_)
  refine lv_aload_n hx hb (dq dt_X3_begin 3 rfl) rfl (lv_at hl 0 rfl) ?_
  refine lv_iconst (v := (0 : Int32)) hx hb (dq dt_X3_begin 4 rfl) (by decide) ?_
  refine kPut (ci := 3) (ws' := [(a_t, .inr (7, [.int t_yards, .ref a_t_tides, .int t_seeps, .ref a_t_seepYard, .ref a_t_seepSize, .ref a_t_growth, .ref a_t_level, .int t_children, .ref a_t_kind, .ref a_t_childYard, .ref a_t_pace, .ref a_t_ear])), (a_t_seepSize, .inl (cI, 6, .inl t_seepSize)), (a_t_childYard, .inl (cI, 5, .inl t_childYard)), (a_n, .inr (3, [.ref a_t, .int (0 : Int32), .int (0 : Int32), .ref a_n_size, .ref a_n_yard, .int n_toLesser, .ref a_n_oranges])), (a_n_size, .inl (cI, 6, .inl n_size)), (a_n_yard, .inl (cI, 5, .inl n_yard)), (a_n_oranges, .inl (cI, 5, .inl n_oranges))]) C in_X3 tyX3 tyX3_ok nmX3 hw 3 rfl rfl 2 (by decide) (C.2.2.2.2.2.2.1 _ q1_123) rfl rfl rfl rfl (Nat.le_of_ble_eq_true rfl) rfl (dq dt_X3_begin 5 rfl) (fun H locs hw => ?_)
  refine lv_aload_n hx hb (dq dt_X3_begin 6 rfl) rfl (lv_at hl 0 rfl) ?_
  refine kGet (ci := 3) C in_X3 hw 3 rfl rfl 0 (by decide) (C.2.2.2.2.2.2.1 _ q1_119) rfl rfl (dq dt_X3_begin 7 rfl) ?_
  refine kGet (ci := 7) C in_X7 hw 0 rfl rfl 4 (by decide) (C.2.2.2.2.2.2.1 _ q1_67) rfl rfl (dq dt_X3_begin 8 rfl) ?_
  refine lv_iconst (v := (0 : Int32)) hx hb (dq dt_X3_begin 9 rfl) (by decide) ?_
  refine lv_aload_n hx hb (dq dt_X3_begin 10 rfl) rfl (lv_at hl 0 rfl) ?_
  refine kGet (ci := 3) C in_X3 hw 3 rfl rfl 3 (by decide) (C.2.2.2.2.2.2.1 _ q1_125) rfl rfl (dq dt_X3_begin 11 rfl) ?_
  refine lv_iconst (v := (0 : Int32)) hx hb (dq dt_X3_begin 12 rfl) (by decide) ?_
  refine lv_bipush (v := (6 : Int32)) hx hb (dq dt_X3_begin 13 rfl) (by decide) ?_
  obtain ⟨g1, eg1, hF⟩ := bd_ hF
  refine kCopyI (ws' := [(a_t, .inr (7, [.int t_yards, .ref a_t_tides, .int t_seeps, .ref a_t_seepYard, .ref a_t_seepSize, .ref a_t_growth, .ref a_t_level, .int t_children, .ref a_t_kind, .ref a_t_childYard, .ref a_t_pace, .ref a_t_ear])), (a_t_seepSize, .inl (cI, 6, .inl t_seepSize)), (a_t_childYard, .inl (cI, 5, .inl t_childYard)), (a_n, .inr (3, [.ref a_t, .int (0 : Int32), .int (0 : Int32), .ref a_n_size, .ref a_n_yard, .int n_toLesser, .ref a_n_oranges])), (a_n_size, .inl (cI, 6, .inl g1)), (a_n_yard, .inl (cI, 5, .inl n_yard)), (a_n_oranges, .inl (cI, 5, .inl n_oranges))]) C hl.1 (C.2.2.2.2.2.2.1 _ q2_227) (C.2.2.2.2.2.2.1 _ q2_88) (C.2.2.2.2.2.2.1 _ q2_87) (C.2.2.2.2.2.2.1 _ q1_11) hw 1 4 1 rfl rfl rfl (by decide) (by decide) (by decide) eg1 rfl (Nat.le_of_ble_eq_true rfl) (Nat.le_of_ble_eq_true rfl) (dq dt_X3_begin 14 rfl) (fun H locs hw => ?_)
  refine lv_aload_n hx hb (dq dt_X3_begin 15 rfl) rfl (lv_at hl 0 rfl) ?_
  refine kGet (ci := 3) C in_X3 hw 3 rfl rfl 0 (by decide) (C.2.2.2.2.2.2.1 _ q1_119) rfl rfl (dq dt_X3_begin 16 rfl) ?_
  refine kGet (ci := 7) C in_X7 hw 0 rfl rfl 9 (by decide) (C.2.2.2.2.2.2.1 _ q1_81) rfl rfl (dq dt_X3_begin 17 rfl) ?_
  refine lv_iconst (v := (0 : Int32)) hx hb (dq dt_X3_begin 18 rfl) (by decide) ?_
  refine lv_aload_n hx hb (dq dt_X3_begin 19 rfl) rfl (lv_at hl 0 rfl) ?_
  refine kGet (ci := 3) C in_X3 hw 3 rfl rfl 4 (by decide) (C.2.2.2.2.2.2.1 _ q1_128) rfl rfl (dq dt_X3_begin 20 rfl) ?_
  refine lv_iconst (v := (0 : Int32)) hx hb (dq dt_X3_begin 21 rfl) (by decide) ?_
  refine lv_iconst (v := (5 : Int32)) hx hb (dq dt_X3_begin 22 rfl) (by decide) ?_
  obtain ⟨g2, eg2, hF⟩ := bd_ hF
  refine kCopyI (ws' := [(a_t, .inr (7, [.int t_yards, .ref a_t_tides, .int t_seeps, .ref a_t_seepYard, .ref a_t_seepSize, .ref a_t_growth, .ref a_t_level, .int t_children, .ref a_t_kind, .ref a_t_childYard, .ref a_t_pace, .ref a_t_ear])), (a_t_seepSize, .inl (cI, 6, .inl t_seepSize)), (a_t_childYard, .inl (cI, 5, .inl t_childYard)), (a_n, .inr (3, [.ref a_t, .int (0 : Int32), .int (0 : Int32), .ref a_n_size, .ref a_n_yard, .int n_toLesser, .ref a_n_oranges])), (a_n_size, .inl (cI, 6, .inl g1)), (a_n_yard, .inl (cI, 5, .inl g2)), (a_n_oranges, .inl (cI, 5, .inl n_oranges))]) C hl.1 (C.2.2.2.2.2.2.1 _ q2_227) (C.2.2.2.2.2.2.1 _ q2_88) (C.2.2.2.2.2.2.1 _ q2_87) (C.2.2.2.2.2.2.1 _ q1_11) hw 2 5 1 rfl rfl rfl (by decide) (by decide) (by decide) eg2 rfl (Nat.le_of_ble_eq_true rfl) (Nat.le_of_ble_eq_true rfl) (dq dt_X3_begin 23 rfl) (fun H locs hw => ?_)
  refine lv_aload_n hx hb (dq dt_X3_begin 24 rfl) rfl (lv_at hl 0 rfl) ?_
  refine lv_iconst (v := (0 : Int32)) hx hb (dq dt_X3_begin 25 rfl) (by decide) ?_
  refine kPut (ci := 3) (ws' := [(a_t, .inr (7, [.int t_yards, .ref a_t_tides, .int t_seeps, .ref a_t_seepYard, .ref a_t_seepSize, .ref a_t_growth, .ref a_t_level, .int t_children, .ref a_t_kind, .ref a_t_childYard, .ref a_t_pace, .ref a_t_ear])), (a_t_seepSize, .inl (cI, 6, .inl t_seepSize)), (a_t_childYard, .inl (cI, 5, .inl t_childYard)), (a_n, .inr (3, [.ref a_t, .int (0 : Int32), .int (0 : Int32), .ref a_n_size, .ref a_n_yard, .int (0 : Int32), .ref a_n_oranges])), (a_n_size, .inl (cI, 6, .inl g1)), (a_n_yard, .inl (cI, 5, .inl g2)), (a_n_oranges, .inl (cI, 5, .inl n_oranges))]) C in_X3 tyX3 tyX3_ok nmX3 hw 3 rfl rfl 5 (by decide) (C.2.2.2.2.2.2.1 _ q1_130) rfl rfl rfl rfl (Nat.le_of_ble_eq_true rfl) rfl (dq dt_X3_begin 26 rfl) (fun H locs hw => ?_)
  refine lv_aload_n hx hb (dq dt_X3_begin 27 rfl) rfl (lv_at hl 0 rfl) ?_
  refine kGet (ci := 3) C in_X3 hw 3 rfl rfl 6 (by decide) (C.2.2.2.2.2.2.1 _ q1_131) rfl rfl (dq dt_X3_begin 28 rfl) ?_
  refine lv_iconst (v := (0 : Int32)) hx hb (dq dt_X3_begin 29 rfl) (by decide) ?_
  obtain ⟨g3, hr4, hF⟩ := zc1_ hF
  refine kCallS (ws2 := [(a_t, .inr (7, [.int t_yards, .ref a_t_tides, .int t_seeps, .ref a_t_seepYard, .ref a_t_seepSize, .ref a_t_growth, .ref a_t_level, .int t_children, .ref a_t_kind, .ref a_t_childYard, .ref a_t_pace, .ref a_t_ear])), (a_t_seepSize, .inl (cI, 6, .inl t_seepSize)), (a_t_childYard, .inl (cI, 5, .inl t_childYard)), (a_n, .inr (3, [.ref a_t, .int (0 : Int32), .int (0 : Int32), .ref a_n_size, .ref a_n_yard, .int (0 : Int32), .ref a_n_oranges])), (a_n_size, .inl (cI, 6, .inl g1)), (a_n_yard, .inl (cI, 5, .inl g2)), (a_n_oranges, .inl (cI, 5, .inl g3))]) C hw (A_J7_fill_53178 l D cB cI cJ cZ ad a_n_oranges n_oranges 5 (0 : Int32) g3 hr4) (va_cwS 2 C.2.2.2.2.2.2.1 (w0_S0 q2_176 q2_228 q2_175 q1_16) rfl rfl rfl ke_J7_fill_53178 ⟨Nat.le_of_ble_eq_true rfl, Nat.le_of_ble_eq_true rfl⟩) [6] rfl rfl rfl rfl hl.1 rfl rfl rfl (Nat.le_of_ble_eq_true rfl) ⟨Nat.le_of_ble_eq_true rfl, Nat.le_of_ble_eq_true rfl⟩ (dq dt_X3_begin 30 rfl) (fun H locs hw => ?_)
  cases hF
  exact kRetV hQ C hw (dq dt_X3_begin 31 rfl)
def F_X0_begin (c_yards : Int32) (c_count : Int32) (c_possible : Int32) (p1 : Int32) : Option (Int32 × Int32 × Int32) :=
  bd (((1 : Int32) <<< (p1 &&& 31)) - (1 : Int32)) (fun v1 => some (p1, (0 : Int32), v1))
abbrev rm_X0_begin : Room := { frames := 0, cells := 0, slots := 0, locals := 0 }
theorem kd_X0_begin : yX0_begin.cls = RX0 ∧ yX0_begin.cls ≠ "java/lang/invoke/MethodHandle" ∧ yX0_begin.cls ≠ "java/lang/invoke/VarHandle" ∧ (parseMethodDescriptor yX0_begin.desc).map (fun d => d.parameters.length) = some 1 := by decide +kernel
set_option maxRecDepth 100000 in
set_option maxHeartbeats 4000000 in
theorem A_X0_begin (l : Launch) (D : va_G) (cB cI cJ cZ : ClassId) (ad : (Nat → Nat) × (Nat → Nat)) (a_c : Nat) (c_yards : Int32) (c_count : Int32) (c_possible : Int32) (p1 : Int32) (c_yards' : Int32) (c_count' : Int32) (c_possible' : Int32) (hF : F_X0_begin c_yards c_count c_possible p1 = some (c_yards', c_count', c_possible')) : kM l yX0_begin (Cond.code yX0_begin cX0_begin 2 (none) :: W0) rm_X0_begin D (kT cB cI cJ cZ) ad [.ref a_c, .int p1] [(a_c, .inr (0, [.int c_yards, .int c_count, .int c_possible]))] none [(a_c, .inr (0, [.int (c_yards'), .int (c_count'), .int (c_possible')]))] := by
  unfold F_X0_begin at hF
  refine kStart (lv := [(0, .ref a_c), (1, .int p1)]) (own := "DikeWatch$Clues") (plainFor_of_name (by decide)) rfl (Nat.le_of_ble_eq_true rfl) rfl ?_
  intro p e s m args below meth c A Q ls hQ C hx hb hw hl
  refine lv_aload_n hx hb (dq dt_X0_begin 0 rfl) rfl (lv_at hl 0 rfl) ?_
  refine lv_iload_n hx hb (dq dt_X0_begin 1 rfl) rfl (lv_at hl 1 rfl) ?_
  refine kPut (ci := 0) (ws' := [(a_c, .inr (0, [.int p1, .int c_count, .int c_possible]))]) C in_X0 tyX0 tyX0_ok nmX0 hw 0 rfl rfl 0 (by decide) (C.2.2.2.2.2.2.1 _ q2_10) rfl rfl rfl rfl (Nat.le_of_ble_eq_true rfl) rfl (dq dt_X0_begin 2 rfl) (fun H locs hw => ?_)
  refine lv_aload_n hx hb (dq dt_X0_begin 3 rfl) rfl (lv_at hl 0 rfl) ?_
  refine lv_iconst (v := (0 : Int32)) hx hb (dq dt_X0_begin 4 rfl) (by decide) ?_
  refine kPut (ci := 0) (ws' := [(a_c, .inr (0, [.int p1, .int (0 : Int32), .int c_possible]))]) C in_X0 tyX0 tyX0_ok nmX0 hw 0 rfl rfl 1 (by decide) (C.2.2.2.2.2.2.1 _ q2_11) rfl rfl rfl rfl (Nat.le_of_ble_eq_true rfl) rfl (dq dt_X0_begin 5 rfl) (fun H locs hw => ?_)
  refine lv_aload_n hx hb (dq dt_X0_begin 6 rfl) rfl (lv_at hl 0 rfl) ?_
  refine lv_iconst (v := (1 : Int32)) hx hb (dq dt_X0_begin 7 rfl) (by decide) ?_
  refine lv_iload_n hx hb (dq dt_X0_begin 8 rfl) rfl (lv_at hl 1 rfl) ?_
  refine lv_ishl hx hb (dq dt_X0_begin 9 rfl) ?_
  refine lv_iconst (v := (1 : Int32)) hx hb (dq dt_X0_begin 10 rfl) (by decide) ?_
  refine lv_isub hx hb (dq dt_X0_begin 11 rfl) ?_
  obtain ⟨v1, ev1, hF⟩ := bd_ hF
  refine kNmI ev1 ?_
  refine kPut (ci := 0) (ws' := [(a_c, .inr (0, [.int p1, .int (0 : Int32), .int v1]))]) C in_X0 tyX0 tyX0_ok nmX0 hw 0 rfl rfl 2 (by decide) (C.2.2.2.2.2.2.1 _ q2_13) rfl rfl rfl rfl (Nat.le_of_ble_eq_true rfl) rfl (dq dt_X0_begin 12 rfl) (fun H locs hw => ?_)
  cases hF
  exact kRetV hQ C hw (dq dt_X0_begin 13 rfl)
def F_J9_floorMod_7cf53 (p1 : Int32) (p2 : Int32) : Option (Int32) :=
  ckI p2 (bd (p1 - p1 / p2 * p2) (fun v2 => if 0 ≤ (p1 ^^^ p2) then (some v2) else (if v2 = 0 then (some v2) else (some (v2 + p2)))))
abbrev rm_J9_floorMod_7cf53 : Room := { frames := 0, cells := 0, slots := 0, locals := 0 }
theorem ke_J9_floorMod_7cf53 : yJ9_floorMod_7cf53.cls ≠ "java/lang/invoke/MethodHandle" ∧ yJ9_floorMod_7cf53.cls ≠ "java/lang/invoke/VarHandle" ∧ (parseMethodDescriptor yJ9_floorMod_7cf53.desc).map (fun d => d.parameters.length) = some 2 := by decide +kernel
set_option maxRecDepth 100000 in
set_option maxHeartbeats 4000000 in
theorem A_J9_floorMod_7cf53 (l : Launch) (D : va_G) (cB cI cJ cZ : ClassId) (ad : (Nat → Nat) × (Nat → Nat)) (p1 : Int32) (p2 : Int32) (r : Int32) (hF : F_J9_floorMod_7cf53 p1 p2 = some r) : kM l yJ9_floorMod_7cf53 (Cond.code yJ9_floorMod_7cf53 cJ9_floorMod_7cf53 3 (some .int) :: W0) rm_J9_floorMod_7cf53 D (kT cB cI cJ cZ) ad [.int p1, .int p2] [] (some (.int r)) [] := by
  unfold F_J9_floorMod_7cf53 at hF
  refine kStart (lv := [(0, .int p1), (1, .int p2)]) (own := "java/lang/Math") (by decide +kernel) rfl (Nat.le_of_ble_eq_true rfl) rfl ?_
  intro p e s m args below meth c A Q ls hQ C hx hb hw hl
  refine lv_iload_n hx hb (dq dt_J9_floorMod_7cf53 0 rfl) rfl (lv_at hl 0 rfl) ?_
  refine lv_iload_n hx hb (dq dt_J9_floorMod_7cf53 1 rfl) rfl (lv_at hl 1 rfl) ?_
  obtain ⟨hz1, hF⟩ := ckI_ hF
  refine lv_irem hx hb (dq dt_J9_floorMod_7cf53 2 rfl) hz1 ?_
  obtain ⟨v2, ev2, hF⟩ := bd_ hF
  refine kNmI ev2 ?_
  refine lv_istore_n (lv' := [(2, .int v2), (0, .int p1), (1, .int p2)]) hx hb (dq dt_J9_floorMod_7cf53 3 rfl) rfl hl (by decide) rfl (fun ls hl => ?_)
  refine lv_iload_n hx hb (dq dt_J9_floorMod_7cf53 4 rfl) rfl (lv_at hl 1 rfl) ?_
  refine lv_iload_n hx hb (dq dt_J9_floorMod_7cf53 5 rfl) rfl (lv_at hl 2 rfl) ?_
  refine lv_ixor hx hb (dq dt_J9_floorMod_7cf53 6 rfl) ?_
  refine lv_if_ge (tgt := 18) hx hb (dq dt_J9_floorMod_7cf53 7 rfl) (by decide) (fun c3 => ?_) (fun c3 => ?_)
  · replace hF := if_t c3 hF
    refine lv_iload_n hx hb (dq dt_J9_floorMod_7cf53 14 rfl) rfl (lv_at hl 0 rfl) ?_
    cases hF
    exact kRetI hQ C hw (dq dt_J9_floorMod_7cf53 15 rfl)
  · replace hF := if_f c3 hF
    refine lv_iload_n hx hb (dq dt_J9_floorMod_7cf53 8 rfl) rfl (lv_at hl 0 rfl) ?_
    refine lv_if_eq (tgt := 18) hx hb (dq dt_J9_floorMod_7cf53 9 rfl) (by decide) (fun c4 => ?_) (fun c4 => ?_)
    · replace hF := if_t c4 hF
      refine lv_iload_n hx hb (dq dt_J9_floorMod_7cf53 14 rfl) rfl (lv_at hl 0 rfl) ?_
      cases hF
      exact kRetI hQ C hw (dq dt_J9_floorMod_7cf53 15 rfl)
    · replace hF := if_f c4 hF
      refine lv_iload_n hx hb (dq dt_J9_floorMod_7cf53 10 rfl) rfl (lv_at hl 0 rfl) ?_
      refine lv_iload_n hx hb (dq dt_J9_floorMod_7cf53 11 rfl) rfl (lv_at hl 2 rfl) ?_
      refine lv_iadd hx hb (dq dt_J9_floorMod_7cf53 12 rfl) ?_
      cases hF
      exact kRetI hQ C hw (dq dt_J9_floorMod_7cf53 13 rfl)
def F_X7_tideAt (t_tides : Nat → Int32) (p1 : Int32) : Option (Int32) :=
  zc1 (F_J9_floorMod_7cf53 p1 (12 : Int32)) (fun v1 => rd 12 t_tides v1 (fun v3 => some v3))
abbrev rm_X7_tideAt : Room := { frames := 1, cells := 0, slots := 0, locals := 22 }
theorem kd_X7_tideAt : yX7_tideAt.cls = RX7 ∧ yX7_tideAt.cls ≠ "java/lang/invoke/MethodHandle" ∧ yX7_tideAt.cls ≠ "java/lang/invoke/VarHandle" ∧ (parseMethodDescriptor yX7_tideAt.desc).map (fun d => d.parameters.length) = some 1 := by decide +kernel
set_option maxRecDepth 100000 in
set_option maxHeartbeats 4000000 in
theorem A_X7_tideAt (l : Launch) (D : va_G) (cB cI cJ cZ : ClassId) (ad : (Nat → Nat) × (Nat → Nat)) (a_t a_t_tides a_t_seepYard a_t_seepSize a_t_growth a_t_level a_t_kind a_t_childYard a_t_pace a_t_ear : Nat) (t_yards : Int32) (t_seeps : Int32) (t_children : Int32) (t_tides : Nat → Int32) (p1 : Int32) (r : Int32) (hF : F_X7_tideAt t_tides p1 = some r) : kM l yX7_tideAt (Cond.code yX7_tideAt cX7_tideAt 2 (some .int) :: W0) rm_X7_tideAt D (kT cB cI cJ cZ) ad [.ref a_t, .int p1] [(a_t, .inr (7, [.int t_yards, .ref a_t_tides, .int t_seeps, .ref a_t_seepYard, .ref a_t_seepSize, .ref a_t_growth, .ref a_t_level, .int t_children, .ref a_t_kind, .ref a_t_childYard, .ref a_t_pace, .ref a_t_ear])), (a_t_tides, .inl (cI, 12, .inl t_tides))] (some (.int r)) [(a_t, .inr (7, [.int t_yards, .ref a_t_tides, .int t_seeps, .ref a_t_seepYard, .ref a_t_seepSize, .ref a_t_growth, .ref a_t_level, .int t_children, .ref a_t_kind, .ref a_t_childYard, .ref a_t_pace, .ref a_t_ear])), (a_t_tides, .inl (cI, 12, .inl t_tides))] := by
  unfold F_X7_tideAt at hF
  refine kStart (lv := [(0, .ref a_t), (1, .int p1)]) (own := "DikeWatch$Told") (plainFor_of_name (by decide)) rfl (Nat.le_of_ble_eq_true rfl) rfl ?_
  intro p e s m args below meth c A Q ls hQ C hx hb hw hl
  refine lv_aload_n hx hb (dq dt_X7_tideAt 0 rfl) rfl (lv_at hl 0 rfl) ?_
  refine kGet (ci := 7) C in_X7 hw 0 rfl rfl 1 (by decide) (C.2.2.2.2.2.2.1 _ q1_54) rfl rfl (dq dt_X7_tideAt 1 rfl) ?_
  refine lv_iload_n hx hb (dq dt_X7_tideAt 2 rfl) rfl (lv_at hl 1 rfl) ?_
  refine lv_bipush (v := (12 : Int32)) hx hb (dq dt_X7_tideAt 3 rfl) (by decide) ?_
  obtain ⟨v1, hr2, hF⟩ := zc1_ hF
  refine kCallSP C hw (A_J9_floorMod_7cf53 l D cB cI cJ cZ ad p1 (12 : Int32) v1 hr2) (va_cwS 2 C.2.2.2.2.2.2.1 (w0_S0 q3_3 q3_1 q3_2 q1_17) rfl rfl rfl ke_J9_floorMod_7cf53 ⟨Nat.le_of_ble_eq_true rfl, Nat.le_of_ble_eq_true rfl⟩) hl.1 rfl rfl rfl (Nat.le_of_ble_eq_true rfl) ⟨Nat.le_of_ble_eq_true rfl, Nat.le_of_ble_eq_true rfl⟩ (dq dt_X7_tideAt 4 rfl) (fun H locs hw => ?_)
  obtain ⟨v3, ev3, hi4, hF⟩ := rd_ hF
  refine kIald C hw 1 1 rfl rfl hi4 ev3 (dq dt_X7_tideAt 5 rfl) ?_
  cases hF
  exact kRetI hQ C hw (dq dt_X7_tideAt 6 rfl)
def F_X8_tide (t_tides : Nat → Int32) (p1 : Int32) : Option (Int32) :=
  zc1 (F_X8_isWithin p1 (0 : Int32) (11 : Int32)) (fun v1 => if v1 = 0 then (some (-3 : Int32)) else (zc1 (F_X7_tideAt t_tides p1) (fun v4 => some v4)))
abbrev rm_X8_tide : Room := { frames := 2, cells := 0, slots := 0, locals := 43 }
theorem kd_X8_tide : yX8_tide.cls = RX8 ∧ yX8_tide.cls ≠ "java/lang/invoke/MethodHandle" ∧ yX8_tide.cls ≠ "java/lang/invoke/VarHandle" ∧ (parseMethodDescriptor yX8_tide.desc).map (fun d => d.parameters.length) = some 1 := by decide +kernel
set_option maxRecDepth 100000 in
set_option maxHeartbeats 4000000 in
theorem A_X8_tide (l : Launch) (D : va_G) (cB cI cJ cZ : ClassId) (ad : (Nat → Nat) × (Nat → Nat)) (a_d a_x a_t a_g a_r a_n a_k a_j a_f a_e a_z a_c a_t_tides a_t_seepYard a_t_seepSize a_t_growth a_t_level a_t_kind a_t_childYard a_t_pace a_t_ear : Nat) (d_keptBits : Int32) (t_yards : Int32) (t_seeps : Int32) (t_children : Int32) (t_tides : Nat → Int32) (p1 : Int32) (r : Int32) (hF : F_X8_tide t_tides p1 = some r) : kM l yX8_tide (Cond.code yX8_tide cX8_tide 2 (some .int) :: W0) rm_X8_tide D (kT cB cI cJ cZ) ad [.ref a_d, .int p1] [(a_d, .inr (8, [.ref a_x, .ref a_t, .ref a_g, .ref a_r, .ref a_n, .ref a_k, .ref a_j, .int d_keptBits, .ref a_f, .ref a_e, .ref a_z, .ref a_c])), (a_t, .inr (7, [.int t_yards, .ref a_t_tides, .int t_seeps, .ref a_t_seepYard, .ref a_t_seepSize, .ref a_t_growth, .ref a_t_level, .int t_children, .ref a_t_kind, .ref a_t_childYard, .ref a_t_pace, .ref a_t_ear])), (a_t_tides, .inl (cI, 12, .inl t_tides))] (some (.int r)) [(a_d, .inr (8, [.ref a_x, .ref a_t, .ref a_g, .ref a_r, .ref a_n, .ref a_k, .ref a_j, .int d_keptBits, .ref a_f, .ref a_e, .ref a_z, .ref a_c])), (a_t, .inr (7, [.int t_yards, .ref a_t_tides, .int t_seeps, .ref a_t_seepYard, .ref a_t_seepSize, .ref a_t_growth, .ref a_t_level, .int t_children, .ref a_t_kind, .ref a_t_childYard, .ref a_t_pace, .ref a_t_ear])), (a_t_tides, .inl (cI, 12, .inl t_tides))] := by
  unfold F_X8_tide at hF
  refine kStart (lv := [(0, .ref a_d), (1, .int p1)]) (own := "DikeWatch") (plainFor_of_name (by decide)) rfl (Nat.le_of_ble_eq_true rfl) rfl ?_
  intro p e s m args below meth c A Q ls hQ C hx hb hw hl
  refine lv_iload_n hx hb (dq dt_X8_tide 0 rfl) rfl (lv_at hl 1 rfl) ?_
  refine lv_iconst (v := (0 : Int32)) hx hb (dq dt_X8_tide 1 rfl) (by decide) ?_
  refine lv_bipush (v := (11 : Int32)) hx hb (dq dt_X8_tide 2 rfl) (by decide) ?_
  obtain ⟨v1, hr2, hF⟩ := zc1_ hF
  refine kCallSP C hw (A_X8_isWithin l D cB cI cJ cZ ad p1 (0 : Int32) (11 : Int32) v1 hr2) (va_cwS 3 C.2.2.2.2.2.2.1 (w0_S0 q2_65 q2_63 q2_64 q1_1) rfl rfl rfl ke_X8_isWithin ⟨Nat.le_of_ble_eq_true rfl, Nat.le_of_ble_eq_true rfl⟩) hl.1 rfl rfl rfl (Nat.le_of_ble_eq_true rfl) ⟨Nat.le_of_ble_eq_true rfl, Nat.le_of_ble_eq_true rfl⟩ (dq dt_X8_tide 3 rfl) (fun H locs hw => ?_)
  refine lv_if_eq (tgt := 21) hx hb (dq dt_X8_tide 4 rfl) (by decide) (fun c3 => ?_) (fun c3 => ?_)
  · replace hF := if_t c3 hF
    refine lv_bipush (v := (-3 : Int32)) hx hb (dq dt_X8_tide 10 rfl) (by decide) ?_
    cases hF
    exact kRetI hQ C hw (dq dt_X8_tide 11 rfl)
  · replace hF := if_f c3 hF
    refine lv_aload_n hx hb (dq dt_X8_tide 5 rfl) rfl (lv_at hl 0 rfl) ?_
    refine kGet (ci := 8) C in_X8 hw 0 rfl rfl 1 (by decide) (C.2.2.2.2.2.2.1 _ q2_23) rfl rfl (dq dt_X8_tide 6 rfl) ?_
    refine lv_iload_n hx hb (dq dt_X8_tide 7 rfl) rfl (lv_at hl 1 rfl) ?_
    obtain ⟨v4, hr5, hF⟩ := zc1_ hF
    refine kCallVR C hw (A_X7_tideAt l D cB cI cJ cZ ad a_t a_t_tides a_t_seepYard a_t_seepSize a_t_growth a_t_level a_t_kind a_t_childYard a_t_pace a_t_ear t_yards t_seeps t_children t_tides p1 v4 hr5) (cwV 1 C.2.2.2.2.2.2.1 (w0_V0 q3_0 q2_237 q2_238 q2_239 q1_3) rfl rfl rfl kd_X7_tideAt ⟨Nat.le_of_ble_eq_true rfl, Nat.le_of_ble_eq_true rfl⟩) [1, 2] rfl rfl 1 7 rfl rfl hl.1 rfl rfl rfl (Nat.le_of_ble_eq_true rfl) ⟨Nat.le_of_ble_eq_true rfl, Nat.le_of_ble_eq_true rfl⟩ (dq dt_X8_tide 8 rfl) (fun H locs hw => ?_)
    refine lv_goto (tgt := 23) hx hb (dq dt_X8_tide 9 rfl) (by decide) ?_
    cases hF
    exact kRetI hQ C hw (dq dt_X8_tide 11 rfl)
def F_X7_hasSeep (t_seeps : Int32) (p1 : Int32) : Option (Int32) :=
  if p1 < 0 then (some (0 : Int32)) else (if t_seeps ≤ p1 then (some (0 : Int32)) else (some (1 : Int32)))
abbrev rm_X7_hasSeep : Room := { frames := 0, cells := 0, slots := 0, locals := 0 }
theorem kd_X7_hasSeep : yX7_hasSeep.cls = RX7 ∧ yX7_hasSeep.cls ≠ "java/lang/invoke/MethodHandle" ∧ yX7_hasSeep.cls ≠ "java/lang/invoke/VarHandle" ∧ (parseMethodDescriptor yX7_hasSeep.desc).map (fun d => d.parameters.length) = some 1 := by decide +kernel
set_option maxRecDepth 100000 in
set_option maxHeartbeats 4000000 in
theorem A_X7_hasSeep (l : Launch) (D : va_G) (cB cI cJ cZ : ClassId) (ad : (Nat → Nat) × (Nat → Nat)) (a_t a_t_tides a_t_seepYard a_t_seepSize a_t_growth a_t_level a_t_kind a_t_childYard a_t_pace a_t_ear : Nat) (t_yards : Int32) (t_seeps : Int32) (t_children : Int32) (p1 : Int32) (r : Int32) (hF : F_X7_hasSeep t_seeps p1 = some r) : kM l yX7_hasSeep (Cond.code yX7_hasSeep cX7_hasSeep 2 (some .boolean) :: W0) rm_X7_hasSeep D (kT cB cI cJ cZ) ad [.ref a_t, .int p1] [(a_t, .inr (7, [.int t_yards, .ref a_t_tides, .int t_seeps, .ref a_t_seepYard, .ref a_t_seepSize, .ref a_t_growth, .ref a_t_level, .int t_children, .ref a_t_kind, .ref a_t_childYard, .ref a_t_pace, .ref a_t_ear]))] (some (.int r)) [(a_t, .inr (7, [.int t_yards, .ref a_t_tides, .int t_seeps, .ref a_t_seepYard, .ref a_t_seepSize, .ref a_t_growth, .ref a_t_level, .int t_children, .ref a_t_kind, .ref a_t_childYard, .ref a_t_pace, .ref a_t_ear]))] := by
  unfold F_X7_hasSeep at hF
  refine kStart (lv := [(0, .ref a_t), (1, .int p1)]) (own := "DikeWatch$Told") (plainFor_of_name (by decide)) rfl (Nat.le_of_ble_eq_true rfl) rfl ?_
  intro p e s m args below meth c A Q ls hQ C hx hb hw hl
  refine lv_iload_n hx hb (dq dt_X7_hasSeep 0 rfl) rfl (lv_at hl 1 rfl) ?_
  refine lv_if_lt (tgt := 16) hx hb (dq dt_X7_hasSeep 1 rfl) (by decide) (fun c1 => ?_) (fun c1 => ?_)
  · replace hF := if_t c1 hF
    refine lv_iconst (v := (0 : Int32)) hx hb (dq dt_X7_hasSeep 8 rfl) (by decide) ?_
    cases hF
    exact kRetZ hQ C rfl hw (dq dt_X7_hasSeep 9 rfl)
  · replace hF := if_f c1 hF
    refine lv_iload_n hx hb (dq dt_X7_hasSeep 2 rfl) rfl (lv_at hl 1 rfl) ?_
    refine lv_aload_n hx hb (dq dt_X7_hasSeep 3 rfl) rfl (lv_at hl 0 rfl) ?_
    refine kGet (ci := 7) C in_X7 hw 0 rfl rfl 2 (by decide) (C.2.2.2.2.2.2.1 _ q1_56) rfl rfl (dq dt_X7_hasSeep 4 rfl) ?_
    refine lv_icmp_ge (tgt := 16) hx hb (dq dt_X7_hasSeep 5 rfl) (by decide) (fun c2 => ?_) (fun c2 => ?_)
    · replace hF := if_t c2 hF
      refine lv_iconst (v := (0 : Int32)) hx hb (dq dt_X7_hasSeep 8 rfl) (by decide) ?_
      cases hF
      exact kRetZ hQ C rfl hw (dq dt_X7_hasSeep 9 rfl)
    · replace hF := if_f c2 hF
      refine lv_iconst (v := (1 : Int32)) hx hb (dq dt_X7_hasSeep 6 rfl) (by decide) ?_
      refine lv_goto (tgt := 17) hx hb (dq dt_X7_hasSeep 7 rfl) (by decide) ?_
      cases hF
      exact kRetZ hQ C rfl hw (dq dt_X7_hasSeep 9 rfl)
def F_X8_hasBit (p1 : Int32) (p2 : Int32) : Option (Int32) :=
  if ((p1 >>> (p2 &&& 31)) &&& (1 : Int32)) = (1 : Int32) then (some (1 : Int32)) else (some (0 : Int32))
abbrev rm_X8_hasBit : Room := { frames := 0, cells := 0, slots := 0, locals := 0 }
theorem ke_X8_hasBit : yX8_hasBit.cls ≠ "java/lang/invoke/MethodHandle" ∧ yX8_hasBit.cls ≠ "java/lang/invoke/VarHandle" ∧ (parseMethodDescriptor yX8_hasBit.desc).map (fun d => d.parameters.length) = some 2 := by decide +kernel
set_option maxRecDepth 100000 in
set_option maxHeartbeats 4000000 in
theorem A_X8_hasBit (l : Launch) (D : va_G) (cB cI cJ cZ : ClassId) (ad : (Nat → Nat) × (Nat → Nat)) (p1 : Int32) (p2 : Int32) (r : Int32) (hF : F_X8_hasBit p1 p2 = some r) : kM l yX8_hasBit (Cond.code yX8_hasBit cX8_hasBit 2 (some .boolean) :: W0) rm_X8_hasBit D (kT cB cI cJ cZ) ad [.int p1, .int p2] [] (some (.int r)) [] := by
  unfold F_X8_hasBit at hF
  refine kStart (lv := [(0, .int p1), (1, .int p2)]) (own := "DikeWatch") (plainFor_of_name (by decide)) rfl (Nat.le_of_ble_eq_true rfl) rfl ?_
  intro p e s m args below meth c A Q ls hQ C hx hb hw hl
  refine lv_iload_n hx hb (dq dt_X8_hasBit 0 rfl) rfl (lv_at hl 0 rfl) ?_
  refine lv_iload_n hx hb (dq dt_X8_hasBit 1 rfl) rfl (lv_at hl 1 rfl) ?_
  refine lv_ishr hx hb (dq dt_X8_hasBit 2 rfl) ?_
  refine lv_iconst (v := (1 : Int32)) hx hb (dq dt_X8_hasBit 3 rfl) (by decide) ?_
  refine lv_iand hx hb (dq dt_X8_hasBit 4 rfl) ?_
  refine lv_iconst (v := (1 : Int32)) hx hb (dq dt_X8_hasBit 5 rfl) (by decide) ?_
  refine lv_icmp_ne (tgt := 13) hx hb (dq dt_X8_hasBit 6 rfl) (by decide) (fun c1 => ?_) (fun c1 => ?_)
  · replace hF := if_f c1 hF
    refine lv_iconst (v := (0 : Int32)) hx hb (dq dt_X8_hasBit 9 rfl) (by decide) ?_
    cases hF
    exact kRetZ hQ C rfl hw (dq dt_X8_hasBit 10 rfl)
  · replace hF := if_t c1 hF
    refine lv_iconst (v := (1 : Int32)) hx hb (dq dt_X8_hasBit 7 rfl) (by decide) ?_
    refine lv_goto (tgt := 14) hx hb (dq dt_X8_hasBit 8 rfl) (by decide) ?_
    cases hF
    exact kRetZ hQ C rfl hw (dq dt_X8_hasBit 10 rfl)
def F_X3_isFilled (n_filled : Int32) (p1 : Int32) : Option (Int32) :=
  zc1 (F_X8_hasBit n_filled p1) (fun v1 => ckZ v1 (some v1))
abbrev rm_X3_isFilled : Room := { frames := 1, cells := 0, slots := 0, locals := 21 }
theorem kd_X3_isFilled : yX3_isFilled.cls = RX3 ∧ yX3_isFilled.cls ≠ "java/lang/invoke/MethodHandle" ∧ yX3_isFilled.cls ≠ "java/lang/invoke/VarHandle" ∧ (parseMethodDescriptor yX3_isFilled.desc).map (fun d => d.parameters.length) = some 1 := by decide +kernel
set_option maxRecDepth 100000 in
set_option maxHeartbeats 4000000 in
theorem A_X3_isFilled (l : Launch) (D : va_G) (cB cI cJ cZ : ClassId) (ad : (Nat → Nat) × (Nat → Nat)) (a_n a_t a_n_size a_n_yard a_n_oranges : Nat) (n_hours : Int32) (n_filled : Int32) (n_toLesser : Int32) (p1 : Int32) (r : Int32) (hF : F_X3_isFilled n_filled p1 = some r) : kM l yX3_isFilled (Cond.code yX3_isFilled cX3_isFilled 2 (some .boolean) :: W0) rm_X3_isFilled D (kT cB cI cJ cZ) ad [.ref a_n, .int p1] [(a_n, .inr (3, [.ref a_t, .int n_hours, .int n_filled, .ref a_n_size, .ref a_n_yard, .int n_toLesser, .ref a_n_oranges]))] (some (.int r)) [(a_n, .inr (3, [.ref a_t, .int n_hours, .int n_filled, .ref a_n_size, .ref a_n_yard, .int n_toLesser, .ref a_n_oranges]))] := by
  unfold F_X3_isFilled at hF
  refine kStart (lv := [(0, .ref a_n), (1, .int p1)]) (own := "DikeWatch$Night") (plainFor_of_name (by decide)) rfl (Nat.le_of_ble_eq_true rfl) rfl ?_
  intro p e s m args below meth c A Q ls hQ C hx hb hw hl
  refine lv_aload_n hx hb (dq dt_X3_isFilled 0 rfl) rfl (lv_at hl 0 rfl) ?_
  refine kGet (ci := 3) C in_X3 hw 0 rfl rfl 2 (by decide) (C.2.2.2.2.2.2.1 _ q1_123) rfl rfl (dq dt_X3_isFilled 1 rfl) ?_
  refine lv_iload_n hx hb (dq dt_X3_isFilled 2 rfl) rfl (lv_at hl 1 rfl) ?_
  obtain ⟨v1, hr2, hF⟩ := zc1_ hF
  refine kCallSN C hw (A_X8_hasBit l D cB cI cJ cZ ad n_filled p1 v1 hr2) ⟨va_cnB 2 C.2.2.2.2.2.2.1 (w0_all0 q3_18) rfl rfl rfl (C.2.2.2.2.2.2.2.2.1.1 _ (List.mem_of_getElem? (i := 5) rfl)) (C.2.2.2.2.2.2.1 _ q1_1) ke_X8_hasBit ⟨Nat.le_of_ble_eq_true rfl, Nat.le_of_ble_eq_true rfl⟩, (C.2.2.2.2.2.2.1 _ q3_17), trivial⟩ hl.1 rfl rfl rfl (Nat.le_of_ble_eq_true rfl) ⟨Nat.le_of_ble_eq_true rfl, Nat.le_of_ble_eq_true rfl⟩ (dq dt_X3_isFilled 3 rfl) (fun H locs hw => ?_)
  obtain ⟨hn, hF⟩ := ckZ_ hF
  cases hF
  exact kRetZ hQ C hn hw (dq dt_X3_isFilled 4 rfl)
def F_X8_seep (t_seeps : Int32) (t_seepYard : Nat → Int32) (t_growth : Nat → Int32) (t_level : Nat → Int32) (n_filled : Int32) (n_size : Nat → Int32) (p1 : Int32) (p2 : Int32) : Option (Int32) :=
  zc1 (F_X7_hasSeep t_seeps p1) (fun v1 => if v1 = 0 then (some (-2 : Int32)) else (if p2 = (0 : Int32) then (rd 6 t_seepYard p1 (fun v5 => some v5)) else (if p2 = (1 : Int32) then (rd 6 n_size p1 (fun v8 => some v8)) else (if p2 = (2 : Int32) then (rd 6 t_growth p1 (fun v11 => some v11)) else (if p2 = (3 : Int32) then (rd 6 t_level p1 (fun v14 => some v14)) else (if p2 = (4 : Int32) then (zc1 (F_X3_isFilled n_filled p1) (fun v17 => if v17 = 0 then (some (0 : Int32)) else (some (1 : Int32)))) else (some (-3 : Int32))))))))
abbrev rm_X8_seep : Room := { frames := 2, cells := 0, slots := 0, locals := 42 }
theorem kd_X8_seep : yX8_seep.cls = RX8 ∧ yX8_seep.cls ≠ "java/lang/invoke/MethodHandle" ∧ yX8_seep.cls ≠ "java/lang/invoke/VarHandle" ∧ (parseMethodDescriptor yX8_seep.desc).map (fun d => d.parameters.length) = some 2 := by decide +kernel
set_option maxRecDepth 100000 in
set_option maxHeartbeats 4000000 in
theorem A_X8_seep (l : Launch) (D : va_G) (cB cI cJ cZ : ClassId) (ad : (Nat → Nat) × (Nat → Nat)) (a_d a_x a_t a_g a_r a_n a_k a_j a_f a_e a_z a_c a_t_tides a_t_seepYard a_t_seepSize a_t_growth a_t_level a_t_kind a_t_childYard a_t_pace a_t_ear a_n_size a_n_yard a_n_oranges : Nat) (d_keptBits : Int32) (t_yards : Int32) (t_seeps : Int32) (t_children : Int32) (t_seepYard : Nat → Int32) (t_growth : Nat → Int32) (t_level : Nat → Int32) (n_hours : Int32) (n_filled : Int32) (n_toLesser : Int32) (n_size : Nat → Int32) (p1 : Int32) (p2 : Int32) (r : Int32) (hF : F_X8_seep t_seeps t_seepYard t_growth t_level n_filled n_size p1 p2 = some r) : kM l yX8_seep (Cond.code yX8_seep cX8_seep 3 (some .int) :: W0) rm_X8_seep D (kT cB cI cJ cZ) ad [.ref a_d, .int p1, .int p2] [(a_d, .inr (8, [.ref a_x, .ref a_t, .ref a_g, .ref a_r, .ref a_n, .ref a_k, .ref a_j, .int d_keptBits, .ref a_f, .ref a_e, .ref a_z, .ref a_c])), (a_t, .inr (7, [.int t_yards, .ref a_t_tides, .int t_seeps, .ref a_t_seepYard, .ref a_t_seepSize, .ref a_t_growth, .ref a_t_level, .int t_children, .ref a_t_kind, .ref a_t_childYard, .ref a_t_pace, .ref a_t_ear])), (a_t_seepYard, .inl (cI, 6, .inl t_seepYard)), (a_t_growth, .inl (cI, 6, .inl t_growth)), (a_t_level, .inl (cI, 6, .inl t_level)), (a_n, .inr (3, [.ref a_t, .int n_hours, .int n_filled, .ref a_n_size, .ref a_n_yard, .int n_toLesser, .ref a_n_oranges])), (a_n_size, .inl (cI, 6, .inl n_size))] (some (.int r)) [(a_d, .inr (8, [.ref a_x, .ref a_t, .ref a_g, .ref a_r, .ref a_n, .ref a_k, .ref a_j, .int d_keptBits, .ref a_f, .ref a_e, .ref a_z, .ref a_c])), (a_t, .inr (7, [.int t_yards, .ref a_t_tides, .int t_seeps, .ref a_t_seepYard, .ref a_t_seepSize, .ref a_t_growth, .ref a_t_level, .int t_children, .ref a_t_kind, .ref a_t_childYard, .ref a_t_pace, .ref a_t_ear])), (a_t_seepYard, .inl (cI, 6, .inl t_seepYard)), (a_t_growth, .inl (cI, 6, .inl t_growth)), (a_t_level, .inl (cI, 6, .inl t_level)), (a_n, .inr (3, [.ref a_t, .int n_hours, .int n_filled, .ref a_n_size, .ref a_n_yard, .int n_toLesser, .ref a_n_oranges])), (a_n_size, .inl (cI, 6, .inl n_size))] := by
  unfold F_X8_seep at hF
  refine kStart (lv := [(0, .ref a_d), (1, .int p1), (2, .int p2)]) (own := "DikeWatch") (plainFor_of_name (by decide)) rfl (Nat.le_of_ble_eq_true rfl) rfl ?_
  intro p e s m args below meth c A Q ls hQ C hx hb hw hl
  refine lv_aload_n hx hb (dq dt_X8_seep 0 rfl) rfl (lv_at hl 0 rfl) ?_
  refine kGet (ci := 8) C in_X8 hw 0 rfl rfl 1 (by decide) (C.2.2.2.2.2.2.1 _ q2_23) rfl rfl (dq dt_X8_seep 1 rfl) ?_
  refine lv_iload_n hx hb (dq dt_X8_seep 2 rfl) rfl (lv_at hl 1 rfl) ?_
  obtain ⟨v1, hr2, hF⟩ := zc1_ hF
  refine kCallVR C hw (A_X7_hasSeep l D cB cI cJ cZ ad a_t a_t_tides a_t_seepYard a_t_seepSize a_t_growth a_t_level a_t_kind a_t_childYard a_t_pace a_t_ear t_yards t_seeps t_children p1 v1 hr2) (cwV 1 C.2.2.2.2.2.2.1 (w0_V0 q3_11 q3_8 q3_9 q3_10 q1_3) rfl rfl rfl kd_X7_hasSeep ⟨Nat.le_of_ble_eq_true rfl, Nat.le_of_ble_eq_true rfl⟩) [1] rfl rfl 1 7 rfl rfl hl.1 rfl rfl rfl (Nat.le_of_ble_eq_true rfl) ⟨Nat.le_of_ble_eq_true rfl, Nat.le_of_ble_eq_true rfl⟩ (dq dt_X8_seep 3 rfl) (fun H locs hw => ?_)
  refine lv_if_ne (tgt := 14) hx hb (dq dt_X8_seep 4 rfl) (by decide) (fun c3 => ?_) (fun c3 => ?_)
  · replace hF := if_f c3 hF
    refine lv_iload_n hx hb (dq dt_X8_seep 7 rfl) rfl (lv_at hl 2 rfl) ?_
    by_cases c4 : p2 = (0 : Int32)
    · replace hF := if_t c4 hF
      refine lv_tableIn (lo := 0) (hi := 4) (tgt := 48) hx hb (dq dt_X8_seep 8 rfl) (by rw [c4]; decide) (by rw [c4]; decide) (by rw [c4]; rfl) (by decide) ?_
      refine lv_aload_n hx hb (dq dt_X8_seep 9 rfl) rfl (lv_at hl 0 rfl) ?_
      refine kGet (ci := 8) C in_X8 hw 0 rfl rfl 1 (by decide) (C.2.2.2.2.2.2.1 _ q2_23) rfl rfl (dq dt_X8_seep 10 rfl) ?_
      refine kGet (ci := 7) C in_X7 hw 1 rfl rfl 3 (by decide) (C.2.2.2.2.2.2.1 _ q1_64) rfl rfl (dq dt_X8_seep 11 rfl) ?_
      refine lv_iload_n hx hb (dq dt_X8_seep 12 rfl) rfl (lv_at hl 1 rfl) ?_
      obtain ⟨v5, ev5, hi6, hF⟩ := rd_ hF
      refine kIald C hw 2 1 rfl rfl hi6 ev5 (dq dt_X8_seep 13 rfl) ?_
      cases hF
      exact kRetI hQ C hw (dq dt_X8_seep 14 rfl)
    replace hF := if_f c4 hF
    by_cases c7 : p2 = (1 : Int32)
    · replace hF := if_t c7 hF
      refine lv_tableIn (lo := 0) (hi := 4) (tgt := 58) hx hb (dq dt_X8_seep 8 rfl) (by rw [c7]; decide) (by rw [c7]; decide) (by rw [c7]; rfl) (by decide) ?_
      refine lv_aload_n hx hb (dq dt_X8_seep 15 rfl) rfl (lv_at hl 0 rfl) ?_
      refine kGet (ci := 8) C in_X8 hw 0 rfl rfl 4 (by decide) (C.2.2.2.2.2.2.1 _ q2_26) rfl rfl (dq dt_X8_seep 16 rfl) ?_
      refine kGet (ci := 3) C in_X3 hw 5 rfl rfl 3 (by decide) (C.2.2.2.2.2.2.1 _ q1_127) rfl rfl (dq dt_X8_seep 17 rfl) ?_
      refine lv_iload_n hx hb (dq dt_X8_seep 18 rfl) rfl (lv_at hl 1 rfl) ?_
      obtain ⟨v8, ev8, hi9, hF⟩ := rd_ hF
      refine kIald C hw 6 1 rfl rfl hi9 ev8 (dq dt_X8_seep 19 rfl) ?_
      cases hF
      exact kRetI hQ C hw (dq dt_X8_seep 20 rfl)
    replace hF := if_f c7 hF
    by_cases c10 : p2 = (2 : Int32)
    · replace hF := if_t c10 hF
      refine lv_tableIn (lo := 0) (hi := 4) (tgt := 68) hx hb (dq dt_X8_seep 8 rfl) (by rw [c10]; decide) (by rw [c10]; decide) (by rw [c10]; rfl) (by decide) ?_
      refine lv_aload_n hx hb (dq dt_X8_seep 21 rfl) rfl (lv_at hl 0 rfl) ?_
      refine kGet (ci := 8) C in_X8 hw 0 rfl rfl 1 (by decide) (C.2.2.2.2.2.2.1 _ q2_23) rfl rfl (dq dt_X8_seep 22 rfl) ?_
      refine kGet (ci := 7) C in_X7 hw 1 rfl rfl 5 (by decide) (C.2.2.2.2.2.2.1 _ q1_69) rfl rfl (dq dt_X8_seep 23 rfl) ?_
      refine lv_iload_n hx hb (dq dt_X8_seep 24 rfl) rfl (lv_at hl 1 rfl) ?_
      obtain ⟨v11, ev11, hi12, hF⟩ := rd_ hF
      refine kIald C hw 3 1 rfl rfl hi12 ev11 (dq dt_X8_seep 25 rfl) ?_
      cases hF
      exact kRetI hQ C hw (dq dt_X8_seep 26 rfl)
    replace hF := if_f c10 hF
    by_cases c13 : p2 = (3 : Int32)
    · replace hF := if_t c13 hF
      refine lv_tableIn (lo := 0) (hi := 4) (tgt := 78) hx hb (dq dt_X8_seep 8 rfl) (by rw [c13]; decide) (by rw [c13]; decide) (by rw [c13]; rfl) (by decide) ?_
      refine lv_aload_n hx hb (dq dt_X8_seep 27 rfl) rfl (lv_at hl 0 rfl) ?_
      refine kGet (ci := 8) C in_X8 hw 0 rfl rfl 1 (by decide) (C.2.2.2.2.2.2.1 _ q2_23) rfl rfl (dq dt_X8_seep 28 rfl) ?_
      refine kGet (ci := 7) C in_X7 hw 1 rfl rfl 6 (by decide) (C.2.2.2.2.2.2.1 _ q1_71) rfl rfl (dq dt_X8_seep 29 rfl) ?_
      refine lv_iload_n hx hb (dq dt_X8_seep 30 rfl) rfl (lv_at hl 1 rfl) ?_
      obtain ⟨v14, ev14, hi15, hF⟩ := rd_ hF
      refine kIald C hw 4 1 rfl rfl hi15 ev14 (dq dt_X8_seep 31 rfl) ?_
      cases hF
      exact kRetI hQ C hw (dq dt_X8_seep 32 rfl)
    replace hF := if_f c13 hF
    by_cases c16 : p2 = (4 : Int32)
    · replace hF := if_t c16 hF
      refine lv_tableIn (lo := 0) (hi := 4) (tgt := 88) hx hb (dq dt_X8_seep 8 rfl) (by rw [c16]; decide) (by rw [c16]; decide) (by rw [c16]; rfl) (by decide) ?_
      refine lv_aload_n hx hb (dq dt_X8_seep 33 rfl) rfl (lv_at hl 0 rfl) ?_
      refine kGet (ci := 8) C in_X8 hw 0 rfl rfl 4 (by decide) (C.2.2.2.2.2.2.1 _ q2_26) rfl rfl (dq dt_X8_seep 34 rfl) ?_
      refine lv_iload_n hx hb (dq dt_X8_seep 35 rfl) rfl (lv_at hl 1 rfl) ?_
      obtain ⟨v17, hr18, hF⟩ := zc1_ hF
      refine kCallVR C hw (A_X3_isFilled l D cB cI cJ cZ ad a_n a_t a_n_size a_n_yard a_n_oranges n_hours n_filled n_toLesser p1 v17 hr18) (cwV 1 C.2.2.2.2.2.2.1 (w0_V0 q3_15 q3_12 q3_13 q3_14 q1_4) rfl rfl rfl kd_X3_isFilled ⟨Nat.le_of_ble_eq_true rfl, Nat.le_of_ble_eq_true rfl⟩) [5] rfl rfl 5 3 rfl rfl hl.1 rfl rfl rfl (Nat.le_of_ble_eq_true rfl) ⟨Nat.le_of_ble_eq_true rfl, Nat.le_of_ble_eq_true rfl⟩ (dq dt_X8_seep 36 rfl) (fun H locs hw => ?_)
      refine lv_if_eq (tgt := 103) hx hb (dq dt_X8_seep 37 rfl) (by decide) (fun c19 => ?_) (fun c19 => ?_)
      · replace hF := if_t c19 hF
        refine lv_iconst (v := (0 : Int32)) hx hb (dq dt_X8_seep 40 rfl) (by decide) ?_
        cases hF
        exact kRetI hQ C hw (dq dt_X8_seep 41 rfl)
      · replace hF := if_f c19 hF
        refine lv_iconst (v := (1 : Int32)) hx hb (dq dt_X8_seep 38 rfl) (by decide) ?_
        refine lv_goto (tgt := 104) hx hb (dq dt_X8_seep 39 rfl) (by decide) ?_
        cases hF
        exact kRetI hQ C hw (dq dt_X8_seep 41 rfl)
    replace hF := if_f c16 hF
    refine lv_tableOut (lo := 0) (hi := 4) (tgt := 105) hx hb (dq dt_X8_seep 8 rfl) (tb_out (n := 5) (by decide) (fun i hi => by match i, hi with | 0, _ => exact c4 | 1, _ => exact c7 | 2, _ => exact c10 | 3, _ => exact c13 | 4, _ => exact c16 | i + 5, hi => exact absurd hi (by omega))) (by decide) ?_
    refine lv_bipush (v := (-3 : Int32)) hx hb (dq dt_X8_seep 42 rfl) (by decide) ?_
    cases hF
    exact kRetI hQ C hw (dq dt_X8_seep 43 rfl)
  · replace hF := if_t c3 hF
    refine lv_bipush (v := (-2 : Int32)) hx hb (dq dt_X8_seep 5 rfl) (by decide) ?_
    cases hF
    exact kRetI hQ C hw (dq dt_X8_seep 6 rfl)
def F_X7_hasChild (t_children : Int32) (p1 : Int32) : Option (Int32) :=
  if p1 < 0 then (some (0 : Int32)) else (if t_children ≤ p1 then (some (0 : Int32)) else (some (1 : Int32)))
abbrev rm_X7_hasChild : Room := { frames := 0, cells := 0, slots := 0, locals := 0 }
theorem kd_X7_hasChild : yX7_hasChild.cls = RX7 ∧ yX7_hasChild.cls ≠ "java/lang/invoke/MethodHandle" ∧ yX7_hasChild.cls ≠ "java/lang/invoke/VarHandle" ∧ (parseMethodDescriptor yX7_hasChild.desc).map (fun d => d.parameters.length) = some 1 := by decide +kernel
set_option maxRecDepth 100000 in
set_option maxHeartbeats 4000000 in
theorem A_X7_hasChild (l : Launch) (D : va_G) (cB cI cJ cZ : ClassId) (ad : (Nat → Nat) × (Nat → Nat)) (a_t a_t_tides a_t_seepYard a_t_seepSize a_t_growth a_t_level a_t_kind a_t_childYard a_t_pace a_t_ear : Nat) (t_yards : Int32) (t_seeps : Int32) (t_children : Int32) (p1 : Int32) (r : Int32) (hF : F_X7_hasChild t_children p1 = some r) : kM l yX7_hasChild (Cond.code yX7_hasChild cX7_hasChild 2 (some .boolean) :: W0) rm_X7_hasChild D (kT cB cI cJ cZ) ad [.ref a_t, .int p1] [(a_t, .inr (7, [.int t_yards, .ref a_t_tides, .int t_seeps, .ref a_t_seepYard, .ref a_t_seepSize, .ref a_t_growth, .ref a_t_level, .int t_children, .ref a_t_kind, .ref a_t_childYard, .ref a_t_pace, .ref a_t_ear]))] (some (.int r)) [(a_t, .inr (7, [.int t_yards, .ref a_t_tides, .int t_seeps, .ref a_t_seepYard, .ref a_t_seepSize, .ref a_t_growth, .ref a_t_level, .int t_children, .ref a_t_kind, .ref a_t_childYard, .ref a_t_pace, .ref a_t_ear]))] := by
  unfold F_X7_hasChild at hF
  refine kStart (lv := [(0, .ref a_t), (1, .int p1)]) (own := "DikeWatch$Told") (plainFor_of_name (by decide)) rfl (Nat.le_of_ble_eq_true rfl) rfl ?_
  intro p e s m args below meth c A Q ls hQ C hx hb hw hl
  refine lv_iload_n hx hb (dq dt_X7_hasChild 0 rfl) rfl (lv_at hl 1 rfl) ?_
  refine lv_if_lt (tgt := 16) hx hb (dq dt_X7_hasChild 1 rfl) (by decide) (fun c1 => ?_) (fun c1 => ?_)
  · replace hF := if_t c1 hF
    refine lv_iconst (v := (0 : Int32)) hx hb (dq dt_X7_hasChild 8 rfl) (by decide) ?_
    cases hF
    exact kRetZ hQ C rfl hw (dq dt_X7_hasChild 9 rfl)
  · replace hF := if_f c1 hF
    refine lv_iload_n hx hb (dq dt_X7_hasChild 2 rfl) rfl (lv_at hl 1 rfl) ?_
    refine lv_aload_n hx hb (dq dt_X7_hasChild 3 rfl) rfl (lv_at hl 0 rfl) ?_
    refine kGet (ci := 7) C in_X7 hw 0 rfl rfl 7 (by decide) (C.2.2.2.2.2.2.1 _ q1_72) rfl rfl (dq dt_X7_hasChild 4 rfl) ?_
    refine lv_icmp_ge (tgt := 16) hx hb (dq dt_X7_hasChild 5 rfl) (by decide) (fun c2 => ?_) (fun c2 => ?_)
    · replace hF := if_t c2 hF
      refine lv_iconst (v := (0 : Int32)) hx hb (dq dt_X7_hasChild 8 rfl) (by decide) ?_
      cases hF
      exact kRetZ hQ C rfl hw (dq dt_X7_hasChild 9 rfl)
    · replace hF := if_f c2 hF
      refine lv_iconst (v := (1 : Int32)) hx hb (dq dt_X7_hasChild 6 rfl) (by decide) ?_
      refine lv_goto (tgt := 17) hx hb (dq dt_X7_hasChild 7 rfl) (by decide) ?_
      cases hF
      exact kRetZ hQ C rfl hw (dq dt_X7_hasChild 9 rfl)
def F_X3_earOf (t_kind : Nat → Int32) (t_ear : Nat → Int32) (n_hours : Int32) (p1 : Int32) : Option (Int32) :=
  rd 5 t_ear p1 (fun v1 => rd 5 t_kind p1 (fun v3 => if v3 = (1 : Int32) then (bd (if (0 : Int32) < (v1 - (n_hours / (4 : Int32))) then (v1 - (n_hours / (4 : Int32))) else (0 : Int32)) (fun v6 => some v6)) else (some v1)))
abbrev rm_X3_earOf : Room := { frames := 1, cells := 0, slots := 0, locals := 40 }
theorem kd_X3_earOf : yX3_earOf.cls = RX3 ∧ yX3_earOf.cls ≠ "java/lang/invoke/MethodHandle" ∧ yX3_earOf.cls ≠ "java/lang/invoke/VarHandle" ∧ (parseMethodDescriptor yX3_earOf.desc).map (fun d => d.parameters.length) = some 1 := by decide +kernel
set_option maxRecDepth 100000 in
set_option maxHeartbeats 4000000 in
theorem A_X3_earOf (l : Launch) (D : va_G) (cB cI cJ cZ : ClassId) (ad : (Nat → Nat) × (Nat → Nat)) (a_t a_t_tides a_t_seepYard a_t_seepSize a_t_growth a_t_level a_t_kind a_t_childYard a_t_pace a_t_ear a_n a_n_size a_n_yard a_n_oranges : Nat) (t_yards : Int32) (t_seeps : Int32) (t_children : Int32) (t_kind : Nat → Int32) (t_ear : Nat → Int32) (n_hours : Int32) (n_filled : Int32) (n_toLesser : Int32) (p1 : Int32) (r : Int32) (hF : F_X3_earOf t_kind t_ear n_hours p1 = some r) : kM l yX3_earOf (Cond.code yX3_earOf cX3_earOf 3 (some .int) :: W0) rm_X3_earOf D (kT cB cI cJ cZ) ad [.ref a_n, .int p1] [(a_t, .inr (7, [.int t_yards, .ref a_t_tides, .int t_seeps, .ref a_t_seepYard, .ref a_t_seepSize, .ref a_t_growth, .ref a_t_level, .int t_children, .ref a_t_kind, .ref a_t_childYard, .ref a_t_pace, .ref a_t_ear])), (a_t_kind, .inl (cI, 5, .inl t_kind)), (a_t_ear, .inl (cI, 5, .inl t_ear)), (a_n, .inr (3, [.ref a_t, .int n_hours, .int n_filled, .ref a_n_size, .ref a_n_yard, .int n_toLesser, .ref a_n_oranges]))] (some (.int r)) [(a_t, .inr (7, [.int t_yards, .ref a_t_tides, .int t_seeps, .ref a_t_seepYard, .ref a_t_seepSize, .ref a_t_growth, .ref a_t_level, .int t_children, .ref a_t_kind, .ref a_t_childYard, .ref a_t_pace, .ref a_t_ear])), (a_t_kind, .inl (cI, 5, .inl t_kind)), (a_t_ear, .inl (cI, 5, .inl t_ear)), (a_n, .inr (3, [.ref a_t, .int n_hours, .int n_filled, .ref a_n_size, .ref a_n_yard, .int n_toLesser, .ref a_n_oranges]))] := by
  unfold F_X3_earOf at hF
  refine kStart (lv := [(0, .ref a_n), (1, .int p1)]) (own := "DikeWatch$Night") (plainFor_of_name (by decide)) rfl (Nat.le_of_ble_eq_true rfl) rfl ?_
  intro p e s m args below meth c A Q ls hQ C hx hb hw hl
  refine lv_aload_n hx hb (dq dt_X3_earOf 0 rfl) rfl (lv_at hl 0 rfl) ?_
  refine kGet (ci := 3) C in_X3 hw 3 rfl rfl 0 (by decide) (C.2.2.2.2.2.2.1 _ q1_119) rfl rfl (dq dt_X3_earOf 1 rfl) ?_
  refine kGet (ci := 7) C in_X7 hw 0 rfl rfl 11 (by decide) (C.2.2.2.2.2.2.1 _ q1_86) rfl rfl (dq dt_X3_earOf 2 rfl) ?_
  refine lv_iload_n hx hb (dq dt_X3_earOf 3 rfl) rfl (lv_at hl 1 rfl) ?_
  obtain ⟨v1, ev1, hi2, hF⟩ := rd_ hF
  refine kIald C hw 2 1 rfl rfl hi2 ev1 (dq dt_X3_earOf 4 rfl) ?_
  refine lv_istore_n (lv' := [(2, .int v1), (0, .ref a_n), (1, .int p1)]) hx hb (dq dt_X3_earOf 5 rfl) rfl hl (by decide) rfl (fun ls hl => ?_)
  refine lv_aload_n hx hb (dq dt_X3_earOf 6 rfl) rfl (lv_at hl 1 rfl) ?_
  refine kGet (ci := 3) C in_X3 hw 3 rfl rfl 0 (by decide) (C.2.2.2.2.2.2.1 _ q1_119) rfl rfl (dq dt_X3_earOf 7 rfl) ?_
  refine kGet (ci := 7) C in_X7 hw 0 rfl rfl 8 (by decide) (C.2.2.2.2.2.2.1 _ q1_79) rfl rfl (dq dt_X3_earOf 8 rfl) ?_
  refine lv_iload_n hx hb (dq dt_X3_earOf 9 rfl) rfl (lv_at hl 2 rfl) ?_
  obtain ⟨v3, ev3, hi4, hF⟩ := rd_ hF
  refine kIald C hw 1 1 rfl rfl hi4 ev3 (dq dt_X3_earOf 10 rfl) ?_
  refine lv_iconst (v := (1 : Int32)) hx hb (dq dt_X3_earOf 11 rfl) (by decide) ?_
  refine lv_icmp_ne (tgt := 38) hx hb (dq dt_X3_earOf 12 rfl) (by decide) (fun c5 => ?_) (fun c5 => ?_)
  · replace hF := if_f c5 hF
    refine lv_iload_n hx hb (dq dt_X3_earOf 22 rfl) rfl (lv_at hl 0 rfl) ?_
    cases hF
    exact kRetI hQ C hw (dq dt_X3_earOf 23 rfl)
  · replace hF := if_t c5 hF
    refine lv_iconst (v := (0 : Int32)) hx hb (dq dt_X3_earOf 13 rfl) (by decide) ?_
    refine lv_iload_n hx hb (dq dt_X3_earOf 14 rfl) rfl (lv_at hl 0 rfl) ?_
    refine lv_aload_n hx hb (dq dt_X3_earOf 15 rfl) rfl (lv_at hl 1 rfl) ?_
    refine kGet (ci := 3) C in_X3 hw 3 rfl rfl 1 (by decide) (C.2.2.2.2.2.2.1 _ q1_120) rfl rfl (dq dt_X3_earOf 16 rfl) ?_
    refine lv_iconst (v := (4 : Int32)) hx hb (dq dt_X3_earOf 17 rfl) (by decide) ?_
    refine lv_idiv hx hb (dq dt_X3_earOf 18 rfl) (by decide) ?_
    refine lv_isub hx hb (dq dt_X3_earOf 19 rfl) ?_
    refine va_mmax hx hb (C.2.2.1.trans hl.1.symm) C.2.2.2.2.2.1 (C.2.2.2.2.2.2.1 _ q3_31) (C.2.2.2.2.2.2.1 _ q3_32) (C.2.2.2.2.2.2.1 _ q1_17) (C.2.2.2.2.2.2.1 _ q3_33) (Nat.le_of_ble_eq_true rfl) (Nat.le_of_ble_eq_true rfl) (Nat.le_of_ble_eq_true rfl) (Nat.le_of_ble_eq_true rfl) (dq dt_X3_earOf 20 rfl) ?_
    obtain ⟨v6, ev6, hF⟩ := bd_ hF
    refine kNmI ev6 ?_
    refine lv_goto (tgt := 39) hx hb (dq dt_X3_earOf 21 rfl) (by decide) ?_
    cases hF
    exact kRetI hQ C hw (dq dt_X3_earOf 23 rfl)
def F_X3_goesToLesser (n_toLesser : Int32) (p1 : Int32) : Option (Int32) :=
  zc1 (F_X8_hasBit n_toLesser p1) (fun v1 => ckZ v1 (some v1))
abbrev rm_X3_goesToLesser : Room := { frames := 1, cells := 0, slots := 0, locals := 21 }
theorem kd_X3_goesToLesser : yX3_goesToLesser.cls = RX3 ∧ yX3_goesToLesser.cls ≠ "java/lang/invoke/MethodHandle" ∧ yX3_goesToLesser.cls ≠ "java/lang/invoke/VarHandle" ∧ (parseMethodDescriptor yX3_goesToLesser.desc).map (fun d => d.parameters.length) = some 1 := by decide +kernel
set_option maxRecDepth 100000 in
set_option maxHeartbeats 4000000 in
theorem A_X3_goesToLesser (l : Launch) (D : va_G) (cB cI cJ cZ : ClassId) (ad : (Nat → Nat) × (Nat → Nat)) (a_n a_t a_n_size a_n_yard a_n_oranges : Nat) (n_hours : Int32) (n_filled : Int32) (n_toLesser : Int32) (p1 : Int32) (r : Int32) (hF : F_X3_goesToLesser n_toLesser p1 = some r) : kM l yX3_goesToLesser (Cond.code yX3_goesToLesser cX3_goesToLesser 2 (some .boolean) :: W0) rm_X3_goesToLesser D (kT cB cI cJ cZ) ad [.ref a_n, .int p1] [(a_n, .inr (3, [.ref a_t, .int n_hours, .int n_filled, .ref a_n_size, .ref a_n_yard, .int n_toLesser, .ref a_n_oranges]))] (some (.int r)) [(a_n, .inr (3, [.ref a_t, .int n_hours, .int n_filled, .ref a_n_size, .ref a_n_yard, .int n_toLesser, .ref a_n_oranges]))] := by
  unfold F_X3_goesToLesser at hF
  refine kStart (lv := [(0, .ref a_n), (1, .int p1)]) (own := "DikeWatch$Night") (plainFor_of_name (by decide)) rfl (Nat.le_of_ble_eq_true rfl) rfl ?_
  intro p e s m args below meth c A Q ls hQ C hx hb hw hl
  refine lv_aload_n hx hb (dq dt_X3_goesToLesser 0 rfl) rfl (lv_at hl 0 rfl) ?_
  refine kGet (ci := 3) C in_X3 hw 0 rfl rfl 5 (by decide) (C.2.2.2.2.2.2.1 _ q1_130) rfl rfl (dq dt_X3_goesToLesser 1 rfl) ?_
  refine lv_iload_n hx hb (dq dt_X3_goesToLesser 2 rfl) rfl (lv_at hl 1 rfl) ?_
  obtain ⟨v1, hr2, hF⟩ := zc1_ hF
  refine kCallSN C hw (A_X8_hasBit l D cB cI cJ cZ ad n_toLesser p1 v1 hr2) ⟨va_cnB 2 C.2.2.2.2.2.2.1 (w0_all0 q3_18) rfl rfl rfl (C.2.2.2.2.2.2.2.2.1.1 _ (List.mem_of_getElem? (i := 5) rfl)) (C.2.2.2.2.2.2.1 _ q1_1) ke_X8_hasBit ⟨Nat.le_of_ble_eq_true rfl, Nat.le_of_ble_eq_true rfl⟩, (C.2.2.2.2.2.2.1 _ q3_17), trivial⟩ hl.1 rfl rfl rfl (Nat.le_of_ble_eq_true rfl) ⟨Nat.le_of_ble_eq_true rfl, Nat.le_of_ble_eq_true rfl⟩ (dq dt_X3_goesToLesser 3 rfl) (fun H locs hw => ?_)
  obtain ⟨hn, hF⟩ := ckZ_ hF
  cases hF
  exact kRetZ hQ C hn hw (dq dt_X3_goesToLesser 4 rfl)
