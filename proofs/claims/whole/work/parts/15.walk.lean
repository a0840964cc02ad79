def F_X7_hasSeeps (t_seeps : Int32) (p1 : Int32) : Option (Int32) :=
  zc1 (F_X8_isSetOf t_seeps p1) (fun v1 => ckZ v1 (some v1))
abbrev rm_X7_hasSeeps : Room := { frames := 1, cells := 0, slots := 0, locals := 21 }
theorem kd_X7_hasSeeps : yX7_hasSeeps.cls = RX7 ∧ yX7_hasSeeps.cls ≠ "java/lang/invoke/MethodHandle" ∧ yX7_hasSeeps.cls ≠ "java/lang/invoke/VarHandle" ∧ (parseMethodDescriptor yX7_hasSeeps.desc).map (fun d => d.parameters.length) = some 1 := by decide +kernel
set_option maxRecDepth 100000 in
set_option maxHeartbeats 4000000 in
theorem A_X7_hasSeeps (l : Launch) (D : va_G) (cB cI cJ cZ : ClassId) (ad : (Nat → Nat) × (Nat → Nat)) (a_t a_t_tides a_t_seepYard a_t_seepSize a_t_growth a_t_level a_t_kind a_t_childYard a_t_pace a_t_ear : Nat) (t_yards : Int32) (t_seeps : Int32) (t_children : Int32) (p1 : Int32) (r : Int32) (hF : F_X7_hasSeeps t_seeps p1 = some r) : kM l yX7_hasSeeps (Cond.code yX7_hasSeeps cX7_hasSeeps 2 (some .boolean) :: W0) rm_X7_hasSeeps D (kT cB cI cJ cZ) ad [.ref a_t, .int p1] [(a_t, .inr (7, [.int t_yards, .ref a_t_tides, .int t_seeps, .ref a_t_seepYard, .ref a_t_seepSize, .ref a_t_growth, .ref a_t_level, .int t_children, .ref a_t_kind, .ref a_t_childYard, .ref a_t_pace, .ref a_t_ear]))] (some (.int r)) [(a_t, .inr (7, [.int t_yards, .ref a_t_tides, .int t_seeps, .ref a_t_seepYard, .ref a_t_seepSize, .ref a_t_growth, .ref a_t_level, .int t_children, .ref a_t_kind, .ref a_t_childYard, .ref a_t_pace, .ref a_t_ear]))] := by
  unfold F_X7_hasSeeps at hF
  refine kStart (lv := [(0, .ref a_t), (1, .int p1)]) (own := "DikeWatch$Told") (plainFor_of_name (by decide)) rfl (Nat.le_of_ble_eq_true rfl) rfl ?_
  intro p e s m args below meth c A Q ls hQ C hx hb hw hl
  refine lv_aload_n hx hb (dq dt_X7_hasSeeps 0 rfl) rfl (lv_at hl 0 rfl) ?_
  refine kGet (ci := 7) C in_X7 hw 0 rfl rfl 2 (by decide) (C.2.2.2.2.2.2.1 _ q1_56) rfl rfl (dq dt_X7_hasSeeps 1 rfl) ?_
  refine lv_iload_n hx hb (dq dt_X7_hasSeeps 2 rfl) rfl (lv_at hl 1 rfl) ?_
  obtain ⟨v1, hr2, hF⟩ := zc1_ hF
  refine kCallSN C hw (A_X8_isSetOf l D cB cI cJ cZ ad t_seeps p1 v1 hr2) ⟨va_cnB 2 C.2.2.2.2.2.2.1 (w0_all0 q3_169) rfl rfl rfl (C.2.2.2.2.2.2.2.2.1.1 _ (List.mem_of_getElem? (i := 8) rfl)) (C.2.2.2.2.2.2.1 _ q1_1) ke_X8_isSetOf ⟨Nat.le_of_ble_eq_true rfl, Nat.le_of_ble_eq_true rfl⟩, (C.2.2.2.2.2.2.1 _ q3_168), trivial⟩ hl.1 rfl rfl rfl (Nat.le_of_ble_eq_true rfl) ⟨Nat.le_of_ble_eq_true rfl, Nat.le_of_ble_eq_true rfl⟩ (dq dt_X7_hasSeeps 3 rfl) (fun H locs hw => ?_)
  obtain ⟨hn, hF⟩ := ckZ_ hF
  cases hF
  exact kRetZ hQ C hn hw (dq dt_X7_hasSeeps 4 rfl)
def F_X2_layFirstRow (t_seeps : Int32) (t_tides : Nat → Int32) (t_growth : Nat → Int32) (t_level : Nat → Int32) (n_hours : Int32) (n_size : Nat → Int32) (e_length : Int32) (e_breakHour : Nat → Int32) (e_row : Nat → Int32) (p1 : Int32) : Option (Int32 × (Nat → Int32) × (Nat → Int32)) :=
  zl4 (fun x1 h2 h3 h4 ag5 => if t_seeps ≤ x1 then (some (h2, h3, h4)) else (zc1 (F_X8_hasBit p1 x1) (fun v7 => if v7 = 0 then (bd (x1 + (1 : Int32)) (fun v10 => ag5 v10 h2 h3 h4)) else (if (5 : Int32) ≤ h2 then (bd (x1 + (1 : Int32)) (fun v12 => ag5 v12 h2 h3 h4)) else (zc1 (F_X1_hoursToBreak t_tides t_growth t_level n_hours n_size x1) (fun v13 => wr 6 x1 (upd h3 (x1).toNatClampNeg v13) (fun g15 => wr 5 h2 (upd h4 (h2).toNatClampNeg x1) (fun g17 => bd (h2 + (1 : Int32)) (fun v19 => bd (x1 + (1 : Int32)) (fun v20 => ag5 v20 v19 g15 g17)))))))))) FU (0 : Int32) (0 : Int32) e_breakHour e_row
abbrev rm_X2_layFirstRow : Room := { frames := 4, cells := 0, slots := 0, locals := 89 }
theorem kd_X2_layFirstRow : yX2_layFirstRow.cls = RX2 ∧ yX2_layFirstRow.cls ≠ "java/lang/invoke/MethodHandle" ∧ yX2_layFirstRow.cls ≠ "java/lang/invoke/VarHandle" ∧ (parseMethodDescriptor yX2_layFirstRow.desc).map (fun d => d.parameters.length) = some 1 := by decide +kernel
set_option maxRecDepth 100000 in
set_option maxHeartbeats 4000000 in
theorem A_X2_layFirstRow (l : Launch) (D : va_G) (cB cI cJ cZ : ClassId) (ad : (Nat → Nat) × (Nat → Nat)) (a_t a_t_tides a_t_seepYard a_t_seepSize a_t_growth a_t_level a_t_kind a_t_childYard a_t_pace a_t_ear a_n a_n_size a_n_yard a_n_oranges a_f a_h a_f_breakHour a_f_heardInTime a_e a_e_breakHour a_e_row a_e_bestRow : Nat) (t_yards : Int32) (t_seeps : Int32) (t_children : Int32) (t_tides : Nat → Int32) (t_growth : Nat → Int32) (t_level : Nat → Int32) (n_hours : Int32) (n_filled : Int32) (n_toLesser : Int32) (n_size : Nat → Int32) (e_length : Int32) (e_fewestLost : Int32) (e_breakHour : Nat → Int32) (e_row : Nat → Int32) (p1 : Int32) (e_length' : Int32) (e_breakHour' : Nat → Int32) (e_row' : Nat → Int32) (hF : F_X2_layFirstRow t_seeps t_tides t_growth t_level n_hours n_size e_length e_breakHour e_row p1 = some (e_length', e_breakHour', e_row')) : kM l yX2_layFirstRow (Cond.code yX2_layFirstRow cX2_layFirstRow 3 (none) :: W0) rm_X2_layFirstRow D (kT cB cI cJ cZ) ad [.ref a_e, .int p1] [(a_t, .inr (7, [.int t_yards, .ref a_t_tides, .int t_seeps, .ref a_t_seepYard, .ref a_t_seepSize, .ref a_t_growth, .ref a_t_level, .int t_children, .ref a_t_kind, .ref a_t_childYard, .ref a_t_pace, .ref a_t_ear])), (a_t_tides, .inl (cI, 12, .inl t_tides)), (a_t_growth, .inl (cI, 6, .inl t_growth)), (a_t_level, .inl (cI, 6, .inl t_level)), (a_n, .inr (3, [.ref a_t, .int n_hours, .int n_filled, .ref a_n_size, .ref a_n_yard, .int n_toLesser, .ref a_n_oranges])), (a_n_size, .inl (cI, 6, .inl n_size)), (a_f, .inr (1, [.ref a_t, .ref a_n, .ref a_h, .ref a_f_breakHour, .ref a_f_heardInTime])), (a_e, .inr (2, [.ref a_t, .ref a_f, .ref a_e_breakHour, .ref a_e_row, .ref a_e_bestRow, .int e_length, .int e_fewestLost])), (a_e_breakHour, .inl (cI, 6, .inl e_breakHour)), (a_e_row, .inl (cI, 5, .inl e_row))] none [(a_t, .inr (7, [.int t_yards, .ref a_t_tides, .int t_seeps, .ref a_t_seepYard, .ref a_t_seepSize, .ref a_t_growth, .ref a_t_level, .int t_children, .ref a_t_kind, .ref a_t_childYard, .ref a_t_pace, .ref a_t_ear])), (a_t_tides, .inl (cI, 12, .inl t_tides)), (a_t_growth, .inl (cI, 6, .inl t_growth)), (a_t_level, .inl (cI, 6, .inl t_level)), (a_n, .inr (3, [.ref a_t, .int n_hours, .int n_filled, .ref a_n_size, .ref a_n_yard, .int n_toLesser, .ref a_n_oranges])), (a_n_size, .inl (cI, 6, .inl n_size)), (a_f, .inr (1, [.ref a_t, .ref a_n, .ref a_h, .ref a_f_breakHour, .ref a_f_heardInTime])), (a_e, .inr (2, [.ref a_t, .ref a_f, .ref a_e_breakHour, .ref a_e_row, .ref a_e_bestRow, .int (e_length'), .int e_fewestLost])), (a_e_breakHour, .inl (cI, 6, .inl (e_breakHour'))), (a_e_row, .inl (cI, 5, .inl (e_row')))] := by
  unfold F_X2_layFirstRow at hF
  refine kStart (lv := [(0, .ref a_e), (1, .int p1)]) (own := "DikeWatch$Men") (plainFor_of_name (by decide)) rfl (Nat.le_of_ble_eq_true rfl) rfl ?_
  intro p e s m args below meth c A Q ls hQ C hx hb hw hl
  refine lv_aload_n hx hb (dq dt_X2_layFirstRow 0 rfl) rfl (lv_at hl 0 rfl) ?_
  refine lv_iconst (v := (0 : Int32)) hx hb (dq dt_X2_layFirstRow 1 rfl) (by decide) ?_
  refine kPut (ci := 2) (ws' := [(a_t, .inr (7, [.int t_yards, .ref a_t_tides, .int t_seeps, .ref a_t_seepYard, .ref a_t_seepSize, .ref a_t_growth, .ref a_t_level, .int t_children, .ref a_t_kind, .ref a_t_childYard, .ref a_t_pace, .ref a_t_ear])), (a_t_tides, .inl (cI, 12, .inl t_tides)), (a_t_growth, .inl (cI, 6, .inl t_growth)), (a_t_level, .inl (cI, 6, .inl t_level)), (a_n, .inr (3, [.ref a_t, .int n_hours, .int n_filled, .ref a_n_size, .ref a_n_yard, .int n_toLesser, .ref a_n_oranges])), (a_n_size, .inl (cI, 6, .inl n_size)), (a_f, .inr (1, [.ref a_t, .ref a_n, .ref a_h, .ref a_f_breakHour, .ref a_f_heardInTime])), (a_e, .inr (2, [.ref a_t, .ref a_f, .ref a_e_breakHour, .ref a_e_row, .ref a_e_bestRow, .int (0 : Int32), .int e_fewestLost])), (a_e_breakHour, .inl (cI, 6, .inl e_breakHour)), (a_e_row, .inl (cI, 5, .inl e_row))]) C in_X2 tyX2 tyX2_ok nmX2 hw 7 rfl rfl 5 (by decide) (C.2.2.2.2.2.2.1 _ q1_207) rfl rfl rfl rfl (Nat.le_of_ble_eq_true rfl) rfl (dq dt_X2_layFirstRow 2 rfl) (fun H locs hw => ?_)
  refine lv_iconst (v := (0 : Int32)) hx hb (dq dt_X2_layFirstRow 3 rfl) (by decide) ?_
  refine lv_istore_n (lv' := [(2, .int (0 : Int32)), (0, .ref a_e), (1, .int p1)]) hx hb (dq dt_X2_layFirstRow 4 rfl) rfl hl (by decide) rfl (fun ls hl => ?_)
  obtain ⟨K5, hK05, hK5, hF⟩ := zl4_ hF
  have L5 : ∀ (n : Nat) (x1 : Int32) (h2 : Int32) (h3 : Nat → Int32) (h4 : Nat → Int32), K5 n x1 h2 h3 h4 = some (e_length', e_breakHour', e_row') → ∀ (H : Heap) (locs : List Loc) (ls : Array Slot), kW D A s.heap [(a_t, .inr (7, [.int t_yards, .ref a_t_tides, .int t_seeps, .ref a_t_seepYard, .ref a_t_seepSize, .ref a_t_growth, .ref a_t_level, .int t_children, .ref a_t_kind, .ref a_t_childYard, .ref a_t_pace, .ref a_t_ear])), (a_t_tides, .inl (cI, 12, .inl t_tides)), (a_t_growth, .inl (cI, 6, .inl t_growth)), (a_t_level, .inl (cI, 6, .inl t_level)), (a_n, .inr (3, [.ref a_t, .int n_hours, .int n_filled, .ref a_n_size, .ref a_n_yard, .int n_toLesser, .ref a_n_oranges])), (a_n_size, .inl (cI, 6, .inl n_size)), (a_f, .inr (1, [.ref a_t, .ref a_n, .ref a_h, .ref a_f_breakHour, .ref a_f_heardInTime])), (a_e, .inr (2, [.ref a_t, .ref a_f, .ref a_e_breakHour, .ref a_e_row, .ref a_e_bestRow, .int h2, .int e_fewestLost])), (a_e_breakHour, .inl (cI, 6, .inl h3)), (a_e_row, .inl (cI, 5, .inl h4))] H locs → lv_has ls 3 [(0, .ref a_e), (1, .int p1), (2, .int x1)] → W p l e rm_X2_layFirstRow s m args below meth c H locs 0 0 Q (F0 m 7 ls []) := by
    intro n
    induction n with
    | zero => intro x1 h2 h3 h4 hF; exact (lp_no (hK05 x1 h2 h3 h4) hF).elim
    | succ n ih5 =>
      intro x1 h2 h3 h4 hF H locs ls hw hl
      replace hF := hK5 n x1 h2 h3 h4 hF
      refine lv_iload_n hx hb (dq dt_X2_layFirstRow 5 rfl) rfl (lv_at hl 2 rfl) ?_
      refine lv_aload_n hx hb (dq dt_X2_layFirstRow 6 rfl) rfl (lv_at hl 0 rfl) ?_
      refine kGet (ci := 2) C in_X2 hw 7 rfl rfl 0 (by decide) (C.2.2.2.2.2.2.1 _ q1_202) rfl rfl (dq dt_X2_layFirstRow 7 rfl) ?_
      refine kGet (ci := 7) C in_X7 hw 0 rfl rfl 2 (by decide) (C.2.2.2.2.2.2.1 _ q1_59) rfl rfl (dq dt_X2_layFirstRow 8 rfl) ?_
      refine lv_icmp_ge (tgt := 74) hx hb (dq dt_X2_layFirstRow 9 rfl) (by decide) (fun c6 => ?_) (fun c6 => ?_)
      · replace hF := if_t c6 hF
        cases hF
        exact kRetV hQ C hw (dq dt_X2_layFirstRow 40 rfl)
      · replace hF := if_f c6 hF
        refine lv_iload_n hx hb (dq dt_X2_layFirstRow 10 rfl) rfl (lv_at hl 1 rfl) ?_
        refine lv_iload_n hx hb (dq dt_X2_layFirstRow 11 rfl) rfl (lv_at hl 2 rfl) ?_
        obtain ⟨v7, hr8, hF⟩ := zc1_ hF
        refine kCallSN C hw (A_X8_hasBit l D cB cI cJ cZ ad p1 x1 v7 hr8) ⟨va_cnB 2 C.2.2.2.2.2.2.1 (w0_all0 q3_18) rfl rfl rfl (C.2.2.2.2.2.2.2.2.1.1 _ (List.mem_of_getElem? (i := 10) rfl)) (C.2.2.2.2.2.2.1 _ q1_1) ke_X8_hasBit ⟨Nat.le_of_ble_eq_true rfl, Nat.le_of_ble_eq_true rfl⟩, (C.2.2.2.2.2.2.1 _ q3_17), trivial⟩ hl.1 rfl rfl rfl (Nat.le_of_ble_eq_true rfl) ⟨Nat.le_of_ble_eq_true rfl, Nat.le_of_ble_eq_true rfl⟩ (dq dt_X2_layFirstRow 12 rfl) (fun H locs hw => ?_)
        refine lv_if_eq (tgt := 68) hx hb (dq dt_X2_layFirstRow 13 rfl) (by decide) (fun c9 => ?_) (fun c9 => ?_)
        · replace hF := if_t c9 hF
          obtain ⟨v10, ev10, hF⟩ := bd_ hF
          refine lv_iinc (v := v10) (lv' := [(2, .int v10), (0, .ref a_e), (1, .int p1)]) hx hb (dq dt_X2_layFirstRow 38 rfl) hl (k := 2) rfl ev10.symm (by decide) rfl (fun ls hl => ?_)
          refine lv_goto (tgt := 7) hx hb (dq dt_X2_layFirstRow 39 rfl) (by decide) ?_
          exact ih5 v10 h2 h3 h4 hF _ _ _ hw (lv_sub hl [1, 2, 0] rfl)
        · replace hF := if_f c9 hF
          refine lv_aload_n hx hb (dq dt_X2_layFirstRow 14 rfl) rfl (lv_at hl 0 rfl) ?_
          refine kGet (ci := 2) C in_X2 hw 7 rfl rfl 5 (by decide) (C.2.2.2.2.2.2.1 _ q1_207) rfl rfl (dq dt_X2_layFirstRow 15 rfl) ?_
          refine lv_iconst (v := (5 : Int32)) hx hb (dq dt_X2_layFirstRow 16 rfl) (by decide) ?_
          refine lv_icmp_ge (tgt := 68) hx hb (dq dt_X2_layFirstRow 17 rfl) (by decide) (fun c11 => ?_) (fun c11 => ?_)
          · replace hF := if_t c11 hF
            obtain ⟨v12, ev12, hF⟩ := bd_ hF
            refine lv_iinc (v := v12) (lv' := [(2, .int v12), (0, .ref a_e), (1, .int p1)]) hx hb (dq dt_X2_layFirstRow 38 rfl) hl (k := 2) rfl ev12.symm (by decide) rfl (fun ls hl => ?_)
            refine lv_goto (tgt := 7) hx hb (dq dt_X2_layFirstRow 39 rfl) (by decide) ?_
            exact ih5 v12 h2 h3 h4 hF _ _ _ hw (lv_sub hl [1, 2, 0] rfl)
          · replace hF := if_f c11 hF
            refine lv_aload_n hx hb (dq dt_X2_layFirstRow 18 rfl) rfl (lv_at hl 0 rfl) ?_
            refine kGet (ci := 2) C in_X2 hw 7 rfl rfl 2 (by decide) (C.2.2.2.2.2.2.1 _ q1_204) rfl rfl (dq dt_X2_layFirstRow 19 rfl) ?_
            refine lv_iload_n hx hb (dq dt_X2_layFirstRow 20 rfl) rfl (lv_at hl 2 rfl) ?_
            refine lv_aload_n hx hb (dq dt_X2_layFirstRow 21 rfl) rfl (lv_at hl 0 rfl) ?_
            refine kGet (ci := 2) C in_X2 hw 7 rfl rfl 1 (by decide) (C.2.2.2.2.2.2.1 _ q1_203) rfl rfl (dq dt_X2_layFirstRow 22 rfl) ?_
            refine lv_iload_n hx hb (dq dt_X2_layFirstRow 23 rfl) rfl (lv_at hl 2 rfl) ?_
            obtain ⟨v13, hr14, hF⟩ := zc1_ hF
            refine kCallVR C hw (A_X1_hoursToBreak l D cB cI cJ cZ ad a_t a_t_tides a_t_seepYard a_t_seepSize a_t_growth a_t_level a_t_kind a_t_childYard a_t_pace a_t_ear a_n a_n_size a_n_yard a_n_oranges a_f a_h a_f_breakHour a_f_heardInTime t_yards t_seeps t_children t_tides t_growth t_level n_hours n_filled n_toLesser n_size x1 v13 hr14) (cwV 1 C.2.2.2.2.2.2.1 (w0_V0 q3_157 q3_233 q3_155 q3_156 q1_5) rfl rfl rfl kd_X1_hoursToBreak ⟨Nat.le_of_ble_eq_true rfl, Nat.le_of_ble_eq_true rfl⟩) [0, 1, 2, 3, 4, 5, 6] rfl rfl 6 1 rfl rfl hl.1 rfl rfl rfl (Nat.le_of_ble_eq_true rfl) ⟨Nat.le_of_ble_eq_true rfl, Nat.le_of_ble_eq_true rfl⟩ (dq dt_X2_layFirstRow 24 rfl) (fun H locs hw => ?_)
            obtain ⟨g15, eg15, hi16, hF⟩ := wr_ hF
            refine kIast (ws' := [(a_t, .inr (7, [.int t_yards, .ref a_t_tides, .int t_seeps, .ref a_t_seepYard, .ref a_t_seepSize, .ref a_t_growth, .ref a_t_level, .int t_children, .ref a_t_kind, .ref a_t_childYard, .ref a_t_pace, .ref a_t_ear])), (a_t_tides, .inl (cI, 12, .inl t_tides)), (a_t_growth, .inl (cI, 6, .inl t_growth)), (a_t_level, .inl (cI, 6, .inl t_level)), (a_n, .inr (3, [.ref a_t, .int n_hours, .int n_filled, .ref a_n_size, .ref a_n_yard, .int n_toLesser, .ref a_n_oranges])), (a_n_size, .inl (cI, 6, .inl n_size)), (a_f, .inr (1, [.ref a_t, .ref a_n, .ref a_h, .ref a_f_breakHour, .ref a_f_heardInTime])), (a_e, .inr (2, [.ref a_t, .ref a_f, .ref a_e_breakHour, .ref a_e_row, .ref a_e_bestRow, .int h2, .int e_fewestLost])), (a_e_breakHour, .inl (cI, 6, .inl g15)), (a_e_row, .inl (cI, 5, .inl h4))]) C hw 8 1 rfl rfl hi16 eg15 rfl (dq dt_X2_layFirstRow 25 rfl) (fun H locs hw => ?_)
            refine lv_aload_n hx hb (dq dt_X2_layFirstRow 26 rfl) rfl (lv_at hl 0 rfl) ?_
            refine kGet (ci := 2) C in_X2 hw 7 rfl rfl 3 (by decide) (C.2.2.2.2.2.2.1 _ q1_205) rfl rfl (dq dt_X2_layFirstRow 27 rfl) ?_
            refine lv_aload_n hx hb (dq dt_X2_layFirstRow 28 rfl) rfl (lv_at hl 0 rfl) ?_
            refine kGet (ci := 2) C in_X2 hw 7 rfl rfl 5 (by decide) (C.2.2.2.2.2.2.1 _ q1_207) rfl rfl (dq dt_X2_layFirstRow 29 rfl) ?_
            refine lv_iload_n hx hb (dq dt_X2_layFirstRow 30 rfl) rfl (lv_at hl 2 rfl) ?_
            obtain ⟨g17, eg17, hi18, hF⟩ := wr_ hF
            refine kIast (ws' := [(a_t, .inr (7, [.int t_yards, .ref a_t_tides, .int t_seeps, .ref a_t_seepYard, .ref a_t_seepSize, .ref a_t_growth, .ref a_t_level, .int t_children, .ref a_t_kind, .ref a_t_childYard, .ref a_t_pace, .ref a_t_ear])), (a_t_tides, .inl (cI, 12, .inl t_tides)), (a_t_growth, .inl (cI, 6, .inl t_growth)), (a_t_level, .inl (cI, 6, .inl t_level)), (a_n, .inr (3, [.ref a_t, .int n_hours, .int n_filled, .ref a_n_size, .ref a_n_yard, .int n_toLesser, .ref a_n_oranges])), (a_n_size, .inl (cI, 6, .inl n_size)), (a_f, .inr (1, [.ref a_t, .ref a_n, .ref a_h, .ref a_f_breakHour, .ref a_f_heardInTime])), (a_e, .inr (2, [.ref a_t, .ref a_f, .ref a_e_breakHour, .ref a_e_row, .ref a_e_bestRow, .int h2, .int e_fewestLost])), (a_e_breakHour, .inl (cI, 6, .inl g15)), (a_e_row, .inl (cI, 5, .inl g17))]) C hw 9 1 rfl rfl hi18 eg17 rfl (dq dt_X2_layFirstRow 31 rfl) (fun H locs hw => ?_)
            refine lv_aload_n hx hb (dq dt_X2_layFirstRow 32 rfl) rfl (lv_at hl 0 rfl) ?_
            refine lv_dup hx hb (dq dt_X2_layFirstRow 33 rfl) rfl ?_
            refine kGet (ci := 2) C in_X2 hw 7 rfl rfl 5 (by decide) (C.2.2.2.2.2.2.1 _ q1_207) rfl rfl (dq dt_X2_layFirstRow 34 rfl) ?_
            refine lv_iconst (v := (1 : Int32)) hx hb (dq dt_X2_layFirstRow 35 rfl) (by decide) ?_
            refine lv_iadd hx hb (dq dt_X2_layFirstRow 36 rfl) ?_
            obtain ⟨v19, ev19, hF⟩ := bd_ hF
            refine kNmI ev19 ?_
            refine kPut (ci := 2) (ws' := [(a_t, .inr (7, [.int t_yards, .ref a_t_tides, .int t_seeps, .ref a_t_seepYard, .ref a_t_seepSize, .ref a_t_growth, .ref a_t_level, .int t_children, .ref a_t_kind, .ref a_t_childYard, .ref a_t_pace, .ref a_t_ear])), (a_t_tides, .inl (cI, 12, .inl t_tides)), (a_t_growth, .inl (cI, 6, .inl t_growth)), (a_t_level, .inl (cI, 6, .inl t_level)), (a_n, .inr (3, [.ref a_t, .int n_hours, .int n_filled, .ref a_n_size, .ref a_n_yard, .int n_toLesser, .ref a_n_oranges])), (a_n_size, .inl (cI, 6, .inl n_size)), (a_f, .inr (1, [.ref a_t, .ref a_n, .ref a_h, .ref a_f_breakHour, .ref a_f_heardInTime])), (a_e, .inr (2, [.ref a_t, .ref a_f, .ref a_e_breakHour, .ref a_e_row, .ref a_e_bestRow, .int v19, .int e_fewestLost])), (a_e_breakHour, .inl (cI, 6, .inl g15)), (a_e_row, .inl (cI, 5, .inl g17))]) C in_X2 tyX2 tyX2_ok nmX2 hw 7 rfl rfl 5 (by decide) (C.2.2.2.2.2.2.1 _ q1_207) rfl rfl rfl rfl (Nat.le_of_ble_eq_true rfl) rfl (dq dt_X2_layFirstRow 37 rfl) (fun H locs hw => ?_)
            obtain ⟨v20, ev20, hF⟩ := bd_ hF
            refine lv_iinc (v := v20) (lv' := [(2, .int v20), (0, .ref a_e), (1, .int p1)]) hx hb (dq dt_X2_layFirstRow 38 rfl) hl (k := 2) rfl ev20.symm (by decide) rfl (fun ls hl => ?_)
            refine lv_goto (tgt := 7) hx hb (dq dt_X2_layFirstRow 39 rfl) (by decide) ?_
            exact ih5 v20 v19 g15 g17 hF _ _ _ hw (lv_sub hl [1, 2, 0] rfl)
  exact L5 _ (0 : Int32) (0 : Int32) e_breakHour e_row hF _ _ _ hw (lv_sub hl [1, 2, 0] rfl)
def F_X2_lostByRow (t_seepYard : Nat → Int32) (e_length : Int32) (e_breakHour : Nat → Int32) (e_row : Nat → Int32) (p1 : Int32) : Option (Int32) :=
  zl4 (fun x1 x2 x3 x4 ag5 => if e_length ≤ x4 then (some x1) else (rd 5 e_row x4 (fun v7 => rd 6 t_seepYard v7 (fun v9 => bd (if 0 ≤ (x3 - v9) then (x3 - v9) else 0 - (x3 - v9)) (fun v11 => bd (x2 + (v11 + (1 : Int32))) (fun v12 => rd 6 t_seepYard v7 (fun v13 => rd 6 e_breakHour v7 (fun v15 => zj1 (fun y17 => bd (x1 + y17) (fun v19 => bd (x4 + (1 : Int32)) (fun v20 => ag5 v19 v12 v13 v20))) (fun K18 => if v15 = (-1 : Int32) then (K18 (0 : Int32)) else (rd 6 e_breakHour v7 (fun v22 => if v12 < v22 then (K18 (0 : Int32)) else (K18 (1 : Int32))))))))))))) FU (0 : Int32) (0 : Int32) p1 (0 : Int32)
abbrev rm_X2_lostByRow : Room := { frames := 1, cells := 0, slots := 0, locals := 40 }
theorem kd_X2_lostByRow : yX2_lostByRow.cls = RX2 ∧ yX2_lostByRow.cls ≠ "java/lang/invoke/MethodHandle" ∧ yX2_lostByRow.cls ≠ "java/lang/invoke/VarHandle" ∧ (parseMethodDescriptor yX2_lostByRow.desc).map (fun d => d.parameters.length) = some 1 := by decide +kernel
set_option maxRecDepth 100000 in
set_option maxHeartbeats 4000000 in
theorem A_X2_lostByRow (l : Launch) (D : va_G) (cB cI cJ cZ : ClassId) (ad : (Nat → Nat) × (Nat → Nat)) (a_t a_t_tides a_t_seepYard a_t_seepSize a_t_growth a_t_level a_t_kind a_t_childYard a_t_pace a_t_ear a_e a_f a_e_breakHour a_e_row a_e_bestRow : Nat) (t_yards : Int32) (t_seeps : Int32) (t_children : Int32) (t_seepYard : Nat → Int32) (e_length : Int32) (e_fewestLost : Int32) (e_breakHour : Nat → Int32) (e_row : Nat → Int32) (p1 : Int32) (r : Int32) (hF : F_X2_lostByRow t_seepYard e_length e_breakHour e_row p1 = some r) : kM l yX2_lostByRow (Cond.code yX2_lostByRow cX2_lostByRow 7 (some .int) :: W0) rm_X2_lostByRow D (kT cB cI cJ cZ) ad [.ref a_e, .int p1] [(a_t, .inr (7, [.int t_yards, .ref a_t_tides, .int t_seeps, .ref a_t_seepYard, .ref a_t_seepSize, .ref a_t_growth, .ref a_t_level, .int t_children, .ref a_t_kind, .ref a_t_childYard, .ref a_t_pace, .ref a_t_ear])), (a_t_seepYard, .inl (cI, 6, .inl t_seepYard)), (a_e, .inr (2, [.ref a_t, .ref a_f, .ref a_e_breakHour, .ref a_e_row, .ref a_e_bestRow, .int e_length, .int e_fewestLost])), (a_e_breakHour, .inl (cI, 6, .inl e_breakHour)), (a_e_row, .inl (cI, 5, .inl e_row))] (some (.int r)) [(a_t, .inr (7, [.int t_yards, .ref a_t_tides, .int t_seeps, .ref a_t_seepYard, .ref a_t_seepSize, .ref a_t_growth, .ref a_t_level, .int t_children, .ref a_t_kind, .ref a_t_childYard, .ref a_t_pace, .ref a_t_ear])), (a_t_seepYard, .inl (cI, 6, .inl t_seepYard)), (a_e, .inr (2, [.ref a_t, .ref a_f, .ref a_e_breakHour, .ref a_e_row, .ref a_e_bestRow, .int e_length, .int e_fewestLost])), (a_e_breakHour, .inl (cI, 6, .inl e_breakHour)), (a_e_row, .inl (cI, 5, .inl e_row))] := by
  unfold F_X2_lostByRow at hF
  refine kStart (lv := [(0, .ref a_e), (1, .int p1)]) (own := "DikeWatch$Men") (plainFor_of_name (by decide)) rfl (Nat.le_of_ble_eq_true rfl) rfl ?_
  intro p e s m args below meth c A Q ls hQ C hx hb hw hl
  refine lv_iconst (v := (0 : Int32)) hx hb (dq dt_X2_lostByRow 0 rfl) (by decide) ?_
  refine lv_istore_n (lv' := [(2, .int (0 : Int32)), (0, .ref a_e), (1, .int p1)]) hx hb (dq dt_X2_lostByRow 1 rfl) rfl hl (by decide) rfl (fun ls hl => ?_)
  refine lv_iconst (v := (0 : Int32)) hx hb (dq dt_X2_lostByRow 2 rfl) (by decide) ?_
  refine lv_istore_n (lv' := [(3, .int (0 : Int32)), (2, .int (0 : Int32)), (0, .ref a_e), (1, .int p1)]) hx hb (dq dt_X2_lostByRow 3 rfl) rfl hl (by decide) rfl (fun ls hl => ?_)
  refine lv_iload_n hx hb (dq dt_X2_lostByRow 4 rfl) rfl (lv_at hl 3 rfl) ?_
  refine lv_istore (lv' := [(4, .int p1), (3, .int (0 : Int32)), (2, .int (0 : Int32)), (0, .ref a_e), (1, .int p1)]) hx hb (dq dt_X2_lostByRow 5 rfl) hl (by decide) rfl (fun ls hl => ?_)
  refine lv_iconst (v := (0 : Int32)) hx hb (dq dt_X2_lostByRow 6 rfl) (by decide) ?_
  refine lv_istore (lv' := [(5, .int (0 : Int32)), (4, .int p1), (3, .int (0 : Int32)), (2, .int (0 : Int32)), (0, .ref a_e), (1, .int p1)]) hx hb (dq dt_X2_lostByRow 7 rfl) hl (by decide) rfl (fun ls hl => ?_)
  obtain ⟨K5, hK05, hK5, hF⟩ := zl4_ hF
  have L5 : ∀ (n : Nat) (x1 : Int32) (x2 : Int32) (x3 : Int32) (x4 : Int32), K5 n x1 x2 x3 x4 = some r → ∀ (H : Heap) (locs : List Loc) (ls : Array Slot), kW D A s.heap [(a_t, .inr (7, [.int t_yards, .ref a_t_tides, .int t_seeps, .ref a_t_seepYard, .ref a_t_seepSize, .ref a_t_growth, .ref a_t_level, .int t_children, .ref a_t_kind, .ref a_t_childYard, .ref a_t_pace, .ref a_t_ear])), (a_t_seepYard, .inl (cI, 6, .inl t_seepYard)), (a_e, .inr (2, [.ref a_t, .ref a_f, .ref a_e_breakHour, .ref a_e_row, .ref a_e_bestRow, .int e_length, .int e_fewestLost])), (a_e_breakHour, .inl (cI, 6, .inl e_breakHour)), (a_e_row, .inl (cI, 5, .inl e_row))] H locs → lv_has ls 7 [(0, .ref a_e), (2, .int x1), (3, .int x2), (4, .int x3), (5, .int x4)] → W p l e rm_X2_lostByRow s m args below meth c H locs 0 0 Q (F0 m 10 ls []) := by
    intro n
    induction n with
    | zero => intro x1 x2 x3 x4 hF; exact (lp_no (hK05 x1 x2 x3 x4) hF).elim
    | succ n ih5 =>
      intro x1 x2 x3 x4 hF H locs ls hw hl
      replace hF := hK5 n x1 x2 x3 x4 hF
      refine lv_iload hx hb (dq dt_X2_lostByRow 8 rfl) (lv_at hl 4 rfl) ?_
      refine lv_aload_n hx hb (dq dt_X2_lostByRow 9 rfl) rfl (lv_at hl 0 rfl) ?_
      refine kGet (ci := 2) C in_X2 hw 2 rfl rfl 5 (by decide) (C.2.2.2.2.2.2.1 _ q1_207) rfl rfl (dq dt_X2_lostByRow 10 rfl) ?_
      refine lv_icmp_ge (tgt := 97) hx hb (dq dt_X2_lostByRow 11 rfl) (by decide) (fun c6 => ?_) (fun c6 => ?_)
      · replace hF := if_t c6 hF
        refine lv_iload_n hx hb (dq dt_X2_lostByRow 56 rfl) rfl (lv_at hl 1 rfl) ?_
        cases hF
        exact kRetI hQ C hw (dq dt_X2_lostByRow 57 rfl)
      · replace hF := if_f c6 hF
        refine lv_aload_n hx hb (dq dt_X2_lostByRow 12 rfl) rfl (lv_at hl 0 rfl) ?_
        refine kGet (ci := 2) C in_X2 hw 2 rfl rfl 3 (by decide) (C.2.2.2.2.2.2.1 _ q1_205) rfl rfl (dq dt_X2_lostByRow 13 rfl) ?_
        refine lv_iload hx hb (dq dt_X2_lostByRow 14 rfl) (lv_at hl 4 rfl) ?_
        obtain ⟨v7, ev7, hi8, hF⟩ := rd_ hF
        refine kIald C hw 4 1 rfl rfl hi8 ev7 (dq dt_X2_lostByRow 15 rfl) ?_
        refine lv_istore (lv' := [(6, .int v7), (0, .ref a_e), (2, .int x1), (3, .int x2), (4, .int x3), (5, .int x4)]) hx hb (dq dt_X2_lostByRow 16 rfl) hl (by decide) rfl (fun ls hl => ?_)
        refine lv_iload_n hx hb (dq dt_X2_lostByRow 17 rfl) rfl (lv_at hl 3 rfl) ?_
        refine lv_iload hx hb (dq dt_X2_lostByRow 18 rfl) (lv_at hl 4 rfl) ?_
        refine lv_aload_n hx hb (dq dt_X2_lostByRow 19 rfl) rfl (lv_at hl 1 rfl) ?_
        refine kGet (ci := 2) C in_X2 hw 2 rfl rfl 0 (by decide) (C.2.2.2.2.2.2.1 _ q1_202) rfl rfl (dq dt_X2_lostByRow 20 rfl) ?_
        refine kGet (ci := 7) C in_X7 hw 0 rfl rfl 3 (by decide) (C.2.2.2.2.2.2.1 _ q1_63) rfl rfl (dq dt_X2_lostByRow 21 rfl) ?_
        refine lv_iload hx hb (dq dt_X2_lostByRow 22 rfl) (lv_at hl 0 rfl) ?_
        obtain ⟨v9, ev9, hi10, hF⟩ := rd_ hF
        refine kIald C hw 1 1 rfl rfl hi10 ev9 (dq dt_X2_lostByRow 23 rfl) ?_
        refine lv_isub hx hb (dq dt_X2_lostByRow 24 rfl) ?_
        refine va_mabs hx hb (C.2.2.1.trans hl.1.symm) C.2.2.2.2.2.1 (C.2.2.2.2.2.2.1 _ q3_238) (C.2.2.2.2.2.2.1 _ q3_56) (C.2.2.2.2.2.2.1 _ q1_17) (C.2.2.2.2.2.2.1 _ q3_57) (Nat.le_of_ble_eq_true rfl) (Nat.le_of_ble_eq_true rfl) (Nat.le_of_ble_eq_true rfl) (Nat.le_of_ble_eq_true rfl) (dq dt_X2_lostByRow 25 rfl) ?_
        obtain ⟨v11, ev11, hF⟩ := bd_ hF
        refine kNmI ev11 ?_
        refine lv_iconst (v := (1 : Int32)) hx hb (dq dt_X2_lostByRow 26 rfl) (by decide) ?_
        refine lv_iadd hx hb (dq dt_X2_lostByRow 27 rfl) ?_
        refine lv_iadd hx hb (dq dt_X2_lostByRow 28 rfl) ?_
        obtain ⟨v12, ev12, hF⟩ := bd_ hF
        refine kNmI ev12 ?_
        refine lv_istore_n (lv' := [(3, .int v12), (6, .int v7), (0, .ref a_e), (2, .int x1), (4, .int x3), (5, .int x4)]) hx hb (dq dt_X2_lostByRow 29 rfl) rfl hl (by decide) rfl (fun ls hl => ?_)
        refine lv_aload_n hx hb (dq dt_X2_lostByRow 30 rfl) rfl (lv_at hl 2 rfl) ?_
        refine kGet (ci := 2) C in_X2 hw 2 rfl rfl 0 (by decide) (C.2.2.2.2.2.2.1 _ q1_202) rfl rfl (dq dt_X2_lostByRow 31 rfl) ?_
        refine kGet (ci := 7) C in_X7 hw 0 rfl rfl 3 (by decide) (C.2.2.2.2.2.2.1 _ q1_63) rfl rfl (dq dt_X2_lostByRow 32 rfl) ?_
        refine lv_iload hx hb (dq dt_X2_lostByRow 33 rfl) (lv_at hl 1 rfl) ?_
        obtain ⟨v13, ev13, hi14, hF⟩ := rd_ hF
        refine kIald C hw 1 1 rfl rfl hi14 ev13 (dq dt_X2_lostByRow 34 rfl) ?_
        refine lv_istore (lv' := [(4, .int v13), (3, .int v12), (6, .int v7), (0, .ref a_e), (2, .int x1), (5, .int x4)]) hx hb (dq dt_X2_lostByRow 35 rfl) hl (by decide) rfl (fun ls hl => ?_)
        refine lv_iload_n hx hb (dq dt_X2_lostByRow 36 rfl) rfl (lv_at hl 4 rfl) ?_
        refine lv_aload_n hx hb (dq dt_X2_lostByRow 37 rfl) rfl (lv_at hl 3 rfl) ?_
        refine kGet (ci := 2) C in_X2 hw 2 rfl rfl 2 (by decide) (C.2.2.2.2.2.2.1 _ q1_204) rfl rfl (dq dt_X2_lostByRow 38 rfl) ?_
        refine lv_iload hx hb (dq dt_X2_lostByRow 39 rfl) (lv_at hl 2 rfl) ?_
        obtain ⟨v15, ev15, hi16, hF⟩ := rd_ hF
        refine kIald C hw 3 1 rfl rfl hi16 ev15 (dq dt_X2_lostByRow 40 rfl) ?_
        refine lv_iconst (v := (-1 : Int32)) hx hb (dq dt_X2_lostByRow 41 rfl) (by decide) ?_
        obtain ⟨K18, hK18, hF⟩ := zj1_ hF
        have J18 : ∀ (y17 : Int32), K18 y17 = some r → ∀ (H : Heap) (locs : List Loc) (ls : Array Slot), kW D A s.heap [(a_t, .inr (7, [.int t_yards, .ref a_t_tides, .int t_seeps, .ref a_t_seepYard, .ref a_t_seepSize, .ref a_t_growth, .ref a_t_level, .int t_children, .ref a_t_kind, .ref a_t_childYard, .ref a_t_pace, .ref a_t_ear])), (a_t_seepYard, .inl (cI, 6, .inl t_seepYard)), (a_e, .inr (2, [.ref a_t, .ref a_f, .ref a_e_breakHour, .ref a_e_row, .ref a_e_bestRow, .int e_length, .int e_fewestLost])), (a_e_breakHour, .inl (cI, 6, .inl e_breakHour)), (a_e_row, .inl (cI, 5, .inl e_row))] H locs → lv_has ls 7 [(0, .ref a_e), (3, .int v12), (4, .int v13), (5, .int x4)] → W p l e rm_X2_lostByRow s m args below meth c H locs 0 0 Q (F0 m 89 ls [.int y17, .int x1]) := by
          intro y17 hF H locs ls hw hl
          replace hF := hK18 y17 hF
          refine lv_iadd hx hb (dq dt_X2_lostByRow 52 rfl) ?_
          obtain ⟨v19, ev19, hF⟩ := bd_ hF
          refine kNmI ev19 ?_
          refine lv_istore_n (lv' := [(2, .int v19), (0, .ref a_e), (3, .int v12), (4, .int v13), (5, .int x4)]) hx hb (dq dt_X2_lostByRow 53 rfl) rfl hl (by decide) rfl (fun ls hl => ?_)
          obtain ⟨v20, ev20, hF⟩ := bd_ hF
          refine lv_iinc (v := v20) (lv' := [(5, .int v20), (2, .int v19), (0, .ref a_e), (3, .int v12), (4, .int v13)]) hx hb (dq dt_X2_lostByRow 54 rfl) hl (k := 4) rfl ev20.symm (by decide) rfl (fun ls hl => ?_)
          refine lv_goto (tgt := 10) hx hb (dq dt_X2_lostByRow 55 rfl) (by decide) ?_
          exact ih5 v19 v12 v13 v20 hF _ _ _ hw (lv_sub hl [2, 1, 3, 4, 0] rfl)
        refine lv_icmp_eq (tgt := 88) hx hb (dq dt_X2_lostByRow 42 rfl) (by decide) (fun c21 => ?_) (fun c21 => ?_)
        · replace hF := if_t c21 hF
          refine lv_iconst (v := (0 : Int32)) hx hb (dq dt_X2_lostByRow 51 rfl) (by decide) ?_
          exact J18 (0 : Int32) hF _ _ _ hw (lv_sub hl [3, 1, 0, 5] rfl)
        · replace hF := if_f c21 hF
          refine lv_aload_n hx hb (dq dt_X2_lostByRow 43 rfl) rfl (lv_at hl 3 rfl) ?_
          refine kGet (ci := 2) C in_X2 hw 2 rfl rfl 2 (by decide) (C.2.2.2.2.2.2.1 _ q1_204) rfl rfl (dq dt_X2_lostByRow 44 rfl) ?_
          refine lv_iload hx hb (dq dt_X2_lostByRow 45 rfl) (lv_at hl 2 rfl) ?_
          obtain ⟨v22, ev22, hi23, hF⟩ := rd_ hF
          refine kIald C hw 3 1 rfl rfl hi23 ev22 (dq dt_X2_lostByRow 46 rfl) ?_
          refine lv_iload_n hx hb (dq dt_X2_lostByRow 47 rfl) rfl (lv_at hl 1 rfl) ?_
          refine lv_icmp_gt (tgt := 88) hx hb (dq dt_X2_lostByRow 48 rfl) (by decide) (fun c24 => ?_) (fun c24 => ?_)
          · replace hF := if_t c24 hF
            refine lv_iconst (v := (0 : Int32)) hx hb (dq dt_X2_lostByRow 51 rfl) (by decide) ?_
            exact J18 (0 : Int32) hF _ _ _ hw (lv_sub hl [3, 1, 0, 5] rfl)
          · replace hF := if_f c24 hF
            refine lv_iconst (v := (1 : Int32)) hx hb (dq dt_X2_lostByRow 49 rfl) (by decide) ?_
            refine lv_goto (tgt := 89) hx hb (dq dt_X2_lostByRow 50 rfl) (by decide) ?_
            exact J18 (1 : Int32) hF _ _ _ hw (lv_sub hl [3, 1, 0, 5] rfl)
  exact L5 _ (0 : Int32) (0 : Int32) p1 (0 : Int32) hF _ _ _ hw (lv_sub hl [4, 3, 2, 1, 0] rfl)
def F_X2_swap (e_row : Nat → Int32) (p1 : Int32) (p2 : Int32) : Option ((Nat → Int32)) :=
  rd 5 e_row p1 (fun v1 => rd 5 e_row p2 (fun v3 => wr 5 p1 (upd e_row (p1).toNatClampNeg v3) (fun g5 => wr 5 p2 (upd g5 (p2).toNatClampNeg v1) (fun g7 => some g7))))
abbrev rm_X2_swap : Room := { frames := 0, cells := 0, slots := 0, locals := 0 }
theorem kd_X2_swap : yX2_swap.cls = RX2 ∧ yX2_swap.cls ≠ "java/lang/invoke/MethodHandle" ∧ yX2_swap.cls ≠ "java/lang/invoke/VarHandle" ∧ (parseMethodDescriptor yX2_swap.desc).map (fun d => d.parameters.length) = some 2 := by decide +kernel
set_option maxRecDepth 100000 in
set_option maxHeartbeats 4000000 in
theorem A_X2_swap (l : Launch) (D : va_G) (cB cI cJ cZ : ClassId) (ad : (Nat → Nat) × (Nat → Nat)) (a_e a_t a_f a_e_breakHour a_e_row a_e_bestRow : Nat) (e_length : Int32) (e_fewestLost : Int32) (e_row : Nat → Int32) (p1 : Int32) (p2 : Int32) (e_row' : Nat → Int32) (hF : F_X2_swap e_row p1 p2 = some e_row') : kM l yX2_swap (Cond.code yX2_swap cX2_swap 4 (none) :: W0) rm_X2_swap D (kT cB cI cJ cZ) ad [.ref a_e, .int p1, .int p2] [(a_e, .inr (2, [.ref a_t, .ref a_f, .ref a_e_breakHour, .ref a_e_row, .ref a_e_bestRow, .int e_length, .int e_fewestLost])), (a_e_row, .inl (cI, 5, .inl e_row))] none [(a_e, .inr (2, [.ref a_t, .ref a_f, .ref a_e_breakHour, .ref a_e_row, .ref a_e_bestRow, .int e_length, .int e_fewestLost])), (a_e_row, .inl (cI, 5, .inl (e_row')))] := by
  unfold F_X2_swap at hF
  refine kStart (lv := [(0, .ref a_e), (1, .int p1), (2, .int p2)]) (own := "DikeWatch$Men") (plainFor_of_name (by decide)) rfl (Nat.le_of_ble_eq_true rfl) rfl ?_
  intro p e s m args below meth c A Q ls hQ C hx hb hw hl
  refine lv_aload_n hx hb (dq dt_X2_swap 0 rfl) rfl (lv_at hl 0 rfl) ?_
  refine kGet (ci := 2) C in_X2 hw 0 rfl rfl 3 (by decide) (C.2.2.2.2.2.2.1 _ q1_205) rfl rfl (dq dt_X2_swap 1 rfl) ?_
  refine lv_iload_n hx hb (dq dt_X2_swap 2 rfl) rfl (lv_at hl 1 rfl) ?_
  obtain ⟨v1, ev1, hi2, hF⟩ := rd_ hF
  refine kIald C hw 1 1 rfl rfl hi2 ev1 (dq dt_X2_swap 3 rfl) ?_
  refine lv_istore_n (lv' := [(3, .int v1), (0, .ref a_e), (1, .int p1), (2, .int p2)]) hx hb (dq dt_X2_swap 4 rfl) rfl hl (by decide) rfl (fun ls hl => ?_)
  refine lv_aload_n hx hb (dq dt_X2_swap 5 rfl) rfl (lv_at hl 1 rfl) ?_
  refine kGet (ci := 2) C in_X2 hw 0 rfl rfl 3 (by decide) (C.2.2.2.2.2.2.1 _ q1_205) rfl rfl (dq dt_X2_swap 6 rfl) ?_
  refine lv_iload_n hx hb (dq dt_X2_swap 7 rfl) rfl (lv_at hl 2 rfl) ?_
  refine lv_aload_n hx hb (dq dt_X2_swap 8 rfl) rfl (lv_at hl 1 rfl) ?_
  refine kGet (ci := 2) C in_X2 hw 0 rfl rfl 3 (by decide) (C.2.2.2.2.2.2.1 _ q1_205) rfl rfl (dq dt_X2_swap 9 rfl) ?_
  refine lv_iload_n hx hb (dq dt_X2_swap 10 rfl) rfl (lv_at hl 3 rfl) ?_
  obtain ⟨v3, ev3, hi4, hF⟩ := rd_ hF
  refine kIald C hw 1 1 rfl rfl hi4 ev3 (dq dt_X2_swap 11 rfl) ?_
  obtain ⟨g5, eg5, hi6, hF⟩ := wr_ hF
  refine kIast (ws' := [(a_e, .inr (2, [.ref a_t, .ref a_f, .ref a_e_breakHour, .ref a_e_row, .ref a_e_bestRow, .int e_length, .int e_fewestLost])), (a_e_row, .inl (cI, 5, .inl g5))]) C hw 1 1 rfl rfl hi6 eg5 rfl (dq dt_X2_swap 12 rfl) (fun H locs hw => ?_)
  refine lv_aload_n hx hb (dq dt_X2_swap 13 rfl) rfl (lv_at hl 1 rfl) ?_
  refine kGet (ci := 2) C in_X2 hw 0 rfl rfl 3 (by decide) (C.2.2.2.2.2.2.1 _ q1_205) rfl rfl (dq dt_X2_swap 14 rfl) ?_
  refine lv_iload_n hx hb (dq dt_X2_swap 15 rfl) rfl (lv_at hl 3 rfl) ?_
  refine lv_iload_n hx hb (dq dt_X2_swap 16 rfl) rfl (lv_at hl 0 rfl) ?_
  obtain ⟨g7, eg7, hi8, hF⟩ := wr_ hF
  refine kIast (ws' := [(a_e, .inr (2, [.ref a_t, .ref a_f, .ref a_e_breakHour, .ref a_e_row, .ref a_e_bestRow, .int e_length, .int e_fewestLost])), (a_e_row, .inl (cI, 5, .inl g7))]) C hw 1 1 rfl rfl hi8 eg7 rfl (dq dt_X2_swap 17 rfl) (fun H locs hw => ?_)
  cases hF
  exact kRetV hQ C hw (dq dt_X2_swap 18 rfl)
def F_X2_layNextRow (e_length : Int32) (e_row : Nat → Int32) : Option (Int32 × (Nat → Int32)) :=
  bd (e_length - (2 : Int32)) (fun v1 => zl1 (fun x2 ag3 => zj0 (if 0 ≤ x2 then (bd (e_length - (1 : Int32)) (fun v6 => zl1 (fun x7 ag8 => zj0 (zc1 (F_X2_swap e_row x2 x7) (fun g10 => bd (x2 + (1 : Int32)) (fun v12 => bd (e_length - (1 : Int32)) (fun v13 => zl3 (fun x14 x15 h16 ag17 => if x15 ≤ x14 then (some ((1 : Int32), h16)) else (zc1 (F_X2_swap h16 x14 x15) (fun g19 => bd (x14 + (1 : Int32)) (fun v21 => bd (x15 + (-1 : Int32)) (fun v22 => ag17 v21 v22 g19))))) FU v12 v13 g10)))) (fun K9 => if x7 ≤ x2 then (K9) else (rd 5 e_row x7 (fun v24 => rd 5 e_row x2 (fun v26 => if v26 ≤ v24 then (K9) else (bd (x7 + (-1 : Int32)) (fun v29 => ag8 v29))))))) FU v6)) else (some ((0 : Int32), e_row))) (fun K4 => if x2 < 0 then (K4) else (rd 5 e_row x2 (fun v31 => rd 5 e_row (x2 + (1 : Int32)) (fun v33 => if v31 ≤ v33 then (K4) else (bd (x2 + (-1 : Int32)) (fun v36 => ag3 v36))))))) FU v1)
abbrev rm_X2_layNextRow : Room := { frames := 1, cells := 0, slots := 0, locals := 23 }
theorem kd_X2_layNextRow : yX2_layNextRow.cls = RX2 ∧ yX2_layNextRow.cls ≠ "java/lang/invoke/MethodHandle" ∧ yX2_layNextRow.cls ≠ "java/lang/invoke/VarHandle" ∧ (parseMethodDescriptor yX2_layNextRow.desc).map (fun d => d.parameters.length) = some 0 := by decide +kernel
set_option maxRecDepth 100000 in
set_option maxHeartbeats 4000000 in
theorem A_X2_layNextRow (l : Launch) (D : va_G) (cB cI cJ cZ : ClassId) (ad : (Nat → Nat) × (Nat → Nat)) (a_e a_t a_f a_e_breakHour a_e_row a_e_bestRow : Nat) (e_length : Int32) (e_fewestLost : Int32) (e_row : Nat → Int32) (r : Int32) (e_row' : Nat → Int32) (hF : F_X2_layNextRow e_length e_row = some (r, e_row')) : kM l yX2_layNextRow (Cond.code yX2_layNextRow cX2_layNextRow 5 (some .boolean) :: W0) rm_X2_layNextRow D (kT cB cI cJ cZ) ad [.ref a_e] [(a_e, .inr (2, [.ref a_t, .ref a_f, .ref a_e_breakHour, .ref a_e_row, .ref a_e_bestRow, .int e_length, .int e_fewestLost])), (a_e_row, .inl (cI, 5, .inl e_row))] (some (.int r)) [(a_e, .inr (2, [.ref a_t, .ref a_f, .ref a_e_breakHour, .ref a_e_row, .ref a_e_bestRow, .int e_length, .int e_fewestLost])), (a_e_row, .inl (cI, 5, .inl (e_row')))] := by
  unfold F_X2_layNextRow at hF
  refine kStart (lv := [(0, .ref a_e)]) (own := "DikeWatch$Men") (plainFor_of_name (by decide)) rfl (Nat.le_of_ble_eq_true rfl) rfl ?_
  intro p e s m args below meth c A Q ls hQ C hx hb hw hl
  refine lv_aload_n hx hb (dq dt_X2_layNextRow 0 rfl) rfl (lv_at hl 0 rfl) ?_
  refine kGet (ci := 2) C in_X2 hw 0 rfl rfl 5 (by decide) (C.2.2.2.2.2.2.1 _ q1_207) rfl rfl (dq dt_X2_layNextRow 1 rfl) ?_
  refine lv_iconst (v := (2 : Int32)) hx hb (dq dt_X2_layNextRow 2 rfl) (by decide) ?_
  refine lv_isub hx hb (dq dt_X2_layNextRow 3 rfl) ?_
  obtain ⟨v1, ev1, hF⟩ := bd_ hF
  refine kNmI ev1 ?_
  refine lv_istore_n (lv' := [(1, .int v1), (0, .ref a_e)]) hx hb (dq dt_X2_layNextRow 4 rfl) rfl hl (by decide) rfl (fun ls hl => ?_)
  obtain ⟨K3, hK03, hK3, hF⟩ := zl1_ hF
  have L3 : ∀ (n : Nat) (x2 : Int32), K3 n x2 = some (r, e_row') → ∀ (H : Heap) (locs : List Loc) (ls : Array Slot), kW D A s.heap [(a_e, .inr (2, [.ref a_t, .ref a_f, .ref a_e_breakHour, .ref a_e_row, .ref a_e_bestRow, .int e_length, .int e_fewestLost])), (a_e_row, .inl (cI, 5, .inl e_row))] H locs → lv_has ls 5 [(0, .ref a_e), (1, .int x2)] → W p l e rm_X2_layNextRow s m args below meth c H locs 0 0 Q (F0 m 7 ls []) := by
    intro n
    induction n with
    | zero => intro x2 hF; exact (lp_no (hK03 x2) hF).elim
    | succ n ih3 =>
      intro x2 hF H locs ls hw hl
      replace hF := hK3 n x2 hF
      refine lv_iload_n hx hb (dq dt_X2_layNextRow 5 rfl) rfl (lv_at hl 1 rfl) ?_
      obtain ⟨K4, hK4, hF⟩ := zj0_ hF
      have J4 : K4 = some (r, e_row') → ∀ (H : Heap) (locs : List Loc) (ls : Array Slot), kW D A s.heap [(a_e, .inr (2, [.ref a_t, .ref a_f, .ref a_e_breakHour, .ref a_e_row, .ref a_e_bestRow, .int e_length, .int e_fewestLost])), (a_e_row, .inl (cI, 5, .inl e_row))] H locs → lv_has ls 5 [(0, .ref a_e), (1, .int x2)] → W p l e rm_X2_layNextRow s m args below meth c H locs 0 0 Q (F0 m 34 ls []) := by
        intro hF H locs ls hw hl
        replace hF := hK4 hF
        refine lv_iload_n hx hb (dq dt_X2_layNextRow 20 rfl) rfl (lv_at hl 1 rfl) ?_
        refine lv_if_ge (tgt := 40) hx hb (dq dt_X2_layNextRow 21 rfl) (by decide) (fun c5 => ?_) (fun c5 => ?_)
        · replace hF := if_t c5 hF
          refine lv_aload_n hx hb (dq dt_X2_layNextRow 24 rfl) rfl (lv_at hl 0 rfl) ?_
          refine kGet (ci := 2) C in_X2 hw 0 rfl rfl 5 (by decide) (C.2.2.2.2.2.2.1 _ q1_207) rfl rfl (dq dt_X2_layNextRow 25 rfl) ?_
          refine lv_iconst (v := (1 : Int32)) hx hb (dq dt_X2_layNextRow 26 rfl) (by decide) ?_
          refine lv_isub hx hb (dq dt_X2_layNextRow 27 rfl) ?_
          obtain ⟨v6, ev6, hF⟩ := bd_ hF
          refine kNmI ev6 ?_
          refine lv_istore_n (lv' := [(2, .int v6), (0, .ref a_e), (1, .int x2)]) hx hb (dq dt_X2_layNextRow 28 rfl) rfl hl (by decide) rfl (fun ls hl => ?_)
          obtain ⟨K8, hK08, hK8, hF⟩ := zl1_ hF
          have L8 : ∀ (n : Nat) (x7 : Int32), K8 n x7 = some (r, e_row') → ∀ (H : Heap) (locs : List Loc) (ls : Array Slot), kW D A s.heap [(a_e, .inr (2, [.ref a_t, .ref a_f, .ref a_e_breakHour, .ref a_e_row, .ref a_e_bestRow, .int e_length, .int e_fewestLost])), (a_e_row, .inl (cI, 5, .inl e_row))] H locs → lv_has ls 5 [(0, .ref a_e), (1, .int x2), (2, .int x7)] → W p l e rm_X2_layNextRow s m args below meth c H locs 0 0 Q (F0 m 47 ls []) := by
            intro n
            induction n with
            | zero => intro x7 hF; exact (lp_no (hK08 x7) hF).elim
            | succ n ih8 =>
              intro x7 hF H locs ls hw hl
              replace hF := hK8 n x7 hF
              refine lv_iload_n hx hb (dq dt_X2_layNextRow 29 rfl) rfl (lv_at hl 2 rfl) ?_
              refine lv_iload_n hx hb (dq dt_X2_layNextRow 30 rfl) rfl (lv_at hl 1 rfl) ?_
              obtain ⟨K9, hK9, hF⟩ := zj0_ hF
              have J9 : K9 = some (r, e_row') → ∀ (H : Heap) (locs : List Loc) (ls : Array Slot), kW D A s.heap [(a_e, .inr (2, [.ref a_t, .ref a_f, .ref a_e_breakHour, .ref a_e_row, .ref a_e_bestRow, .int e_length, .int e_fewestLost])), (a_e_row, .inl (cI, 5, .inl e_row))] H locs → lv_has ls 5 [(0, .ref a_e), (1, .int x2), (2, .int x7)] → W p l e rm_X2_layNextRow s m args below meth c H locs 0 0 Q (F0 m 73 ls []) := by
                intro hF H locs ls hw hl
                replace hF := hK9 hF
                refine lv_aload_n hx hb (dq dt_X2_layNextRow 43 rfl) rfl (lv_at hl 0 rfl) ?_
                refine lv_iload_n hx hb (dq dt_X2_layNextRow 44 rfl) rfl (lv_at hl 1 rfl) ?_
                refine lv_iload_n hx hb (dq dt_X2_layNextRow 45 rfl) rfl (lv_at hl 2 rfl) ?_
                obtain ⟨g10, hr11, hF⟩ := zc1_ hF
                refine kCallV (ws2 := [(a_e, .inr (2, [.ref a_t, .ref a_f, .ref a_e_breakHour, .ref a_e_row, .ref a_e_bestRow, .int e_length, .int e_fewestLost])), (a_e_row, .inl (cI, 5, .inl g10))]) C hw (A_X2_swap l D cB cI cJ cZ ad a_e a_t a_f a_e_breakHour a_e_row a_e_bestRow e_length e_fewestLost e_row x2 x7 g10 hr11) (cwV 2 C.2.2.2.2.2.2.1 (w0_V0 q4_7 q4_4 q4_6 (ws0 19 rfl) q1_7) rfl rfl rfl kd_X2_swap ⟨Nat.le_of_ble_eq_true rfl, Nat.le_of_ble_eq_true rfl⟩) [0, 1] rfl rfl rfl rfl 0 2 rfl rfl hl.1 rfl rfl rfl (Nat.le_of_ble_eq_true rfl) ⟨Nat.le_of_ble_eq_true rfl, Nat.le_of_ble_eq_true rfl⟩ (dq dt_X2_layNextRow 46 rfl) (fun H locs hw => ?_)
                refine lv_iload_n hx hb (dq dt_X2_layNextRow 47 rfl) rfl (lv_at hl 1 rfl) ?_
                refine lv_iconst (v := (1 : Int32)) hx hb (dq dt_X2_layNextRow 48 rfl) (by decide) ?_
                refine lv_iadd hx hb (dq dt_X2_layNextRow 49 rfl) ?_
                obtain ⟨v12, ev12, hF⟩ := bd_ hF
                refine kNmI ev12 ?_
                refine lv_istore_n (lv' := [(3, .int v12), (0, .ref a_e), (1, .int x2), (2, .int x7)]) hx hb (dq dt_X2_layNextRow 50 rfl) rfl hl (by decide) rfl (fun ls hl => ?_)
                refine lv_aload_n hx hb (dq dt_X2_layNextRow 51 rfl) rfl (lv_at hl 1 rfl) ?_
                refine kGet (ci := 2) C in_X2 hw 0 rfl rfl 5 (by decide) (C.2.2.2.2.2.2.1 _ q1_207) rfl rfl (dq dt_X2_layNextRow 52 rfl) ?_
                refine lv_iconst (v := (1 : Int32)) hx hb (dq dt_X2_layNextRow 53 rfl) (by decide) ?_
                refine lv_isub hx hb (dq dt_X2_layNextRow 54 rfl) ?_
                obtain ⟨v13, ev13, hF⟩ := bd_ hF
                refine kNmI ev13 ?_
                refine lv_istore (lv' := [(4, .int v13), (3, .int v12), (0, .ref a_e), (1, .int x2), (2, .int x7)]) hx hb (dq dt_X2_layNextRow 55 rfl) hl (by decide) rfl (fun ls hl => ?_)
                obtain ⟨K17, hK017, hK17, hF⟩ := zl3_ hF
                have L17 : ∀ (n : Nat) (x14 : Int32) (x15 : Int32) (h16 : Nat → Int32), K17 n x14 x15 h16 = some (r, e_row') → ∀ (H : Heap) (locs : List Loc) (ls : Array Slot), kW D A s.heap [(a_e, .inr (2, [.ref a_t, .ref a_f, .ref a_e_breakHour, .ref a_e_row, .ref a_e_bestRow, .int e_length, .int e_fewestLost])), (a_e_row, .inl (cI, 5, .inl h16))] H locs → lv_has ls 5 [(0, .ref a_e), (3, .int x14), (4, .int x15)] → W p l e rm_X2_layNextRow s m args below meth c H locs 0 0 Q (F0 m 91 ls []) := by
                  intro n
                  induction n with
                  | zero => intro x14 x15 h16 hF; exact (lp_no (hK017 x14 x15 h16) hF).elim
                  | succ n ih17 =>
                    intro x14 x15 h16 hF H locs ls hw hl
                    replace hF := hK17 n x14 x15 h16 hF
                    refine lv_iload_n hx hb (dq dt_X2_layNextRow 56 rfl) rfl (lv_at hl 1 rfl) ?_
                    refine lv_iload hx hb (dq dt_X2_layNextRow 57 rfl) (lv_at hl 2 rfl) ?_
                    refine lv_icmp_ge (tgt := 113) hx hb (dq dt_X2_layNextRow 58 rfl) (by decide) (fun c18 => ?_) (fun c18 => ?_)
                    · replace hF := if_t c18 hF
                      refine lv_iconst (v := (1 : Int32)) hx hb (dq dt_X2_layNextRow 66 rfl) (by decide) ?_
                      cases hF
                      exact kRetZ hQ C rfl hw (dq dt_X2_layNextRow 67 rfl)
                    · replace hF := if_f c18 hF
                      refine lv_aload_n hx hb (dq dt_X2_layNextRow 59 rfl) rfl (lv_at hl 0 rfl) ?_
                      refine lv_iload_n hx hb (dq dt_X2_layNextRow 60 rfl) rfl (lv_at hl 1 rfl) ?_
                      refine lv_iload hx hb (dq dt_X2_layNextRow 61 rfl) (lv_at hl 2 rfl) ?_
                      obtain ⟨g19, hr20, hF⟩ := zc1_ hF
                      refine kCallV (ws2 := [(a_e, .inr (2, [.ref a_t, .ref a_f, .ref a_e_breakHour, .ref a_e_row, .ref a_e_bestRow, .int e_length, .int e_fewestLost])), (a_e_row, .inl (cI, 5, .inl g19))]) C hw (A_X2_swap l D cB cI cJ cZ ad a_e a_t a_f a_e_breakHour a_e_row a_e_bestRow e_length e_fewestLost h16 x14 x15 g19 hr20) (cwV 2 C.2.2.2.2.2.2.1 (w0_V0 q4_7 q4_4 q4_6 (ws0 19 rfl) q1_7) rfl rfl rfl kd_X2_swap ⟨Nat.le_of_ble_eq_true rfl, Nat.le_of_ble_eq_true rfl⟩) [0, 1] rfl rfl rfl rfl 0 2 rfl rfl hl.1 rfl rfl rfl (Nat.le_of_ble_eq_true rfl) ⟨Nat.le_of_ble_eq_true rfl, Nat.le_of_ble_eq_true rfl⟩ (dq dt_X2_layNextRow 62 rfl) (fun H locs hw => ?_)
                      obtain ⟨v21, ev21, hF⟩ := bd_ hF
                      refine lv_iinc (v := v21) (lv' := [(3, .int v21), (0, .ref a_e), (4, .int x15)]) hx hb (dq dt_X2_layNextRow 63 rfl) hl (k := 1) rfl ev21.symm (by decide) rfl (fun ls hl => ?_)
                      obtain ⟨v22, ev22, hF⟩ := bd_ hF
                      refine lv_iinc (v := v22) (lv' := [(4, .int v22), (3, .int v21), (0, .ref a_e)]) hx hb (dq dt_X2_layNextRow 64 rfl) hl (k := 2) rfl ev22.symm (by decide) rfl (fun ls hl => ?_)
                      refine lv_goto (tgt := 91) hx hb (dq dt_X2_layNextRow 65 rfl) (by decide) ?_
                      exact ih17 v21 v22 g19 hF _ _ _ hw (lv_sub hl [2, 1, 0] rfl)
                exact L17 _ v12 v13 g10 hF _ _ _ hw (lv_sub hl [2, 1, 0] rfl)
              refine lv_icmp_le (tgt := 73) hx hb (dq dt_X2_layNextRow 31 rfl) (by decide) (fun c23 => ?_) (fun c23 => ?_)
              · replace hF := if_t c23 hF
                exact J9 hF _ _ _ hw (lv_sub hl [0, 1, 2] rfl)
              · replace hF := if_f c23 hF
                refine lv_aload_n hx hb (dq dt_X2_layNextRow 32 rfl) rfl (lv_at hl 0 rfl) ?_
                refine kGet (ci := 2) C in_X2 hw 0 rfl rfl 3 (by decide) (C.2.2.2.2.2.2.1 _ q1_205) rfl rfl (dq dt_X2_layNextRow 33 rfl) ?_
                refine lv_iload_n hx hb (dq dt_X2_layNextRow 34 rfl) rfl (lv_at hl 2 rfl) ?_
                obtain ⟨v24, ev24, hi25, hF⟩ := rd_ hF
                refine kIald C hw 1 1 rfl rfl hi25 ev24 (dq dt_X2_layNextRow 35 rfl) ?_
                refine lv_aload_n hx hb (dq dt_X2_layNextRow 36 rfl) rfl (lv_at hl 0 rfl) ?_
                refine kGet (ci := 2) C in_X2 hw 0 rfl rfl 3 (by decide) (C.2.2.2.2.2.2.1 _ q1_205) rfl rfl (dq dt_X2_layNextRow 37 rfl) ?_
                refine lv_iload_n hx hb (dq dt_X2_layNextRow 38 rfl) rfl (lv_at hl 1 rfl) ?_
                obtain ⟨v26, ev26, hi27, hF⟩ := rd_ hF
                refine kIald C hw 1 1 rfl rfl hi27 ev26 (dq dt_X2_layNextRow 39 rfl) ?_
                refine lv_icmp_ge (tgt := 73) hx hb (dq dt_X2_layNextRow 40 rfl) (by decide) (fun c28 => ?_) (fun c28 => ?_)
                · replace hF := if_t c28 hF
                  exact J9 hF _ _ _ hw (lv_sub hl [0, 1, 2] rfl)
                · replace hF := if_f c28 hF
                  obtain ⟨v29, ev29, hF⟩ := bd_ hF
                  refine lv_iinc (v := v29) (lv' := [(2, .int v29), (0, .ref a_e), (1, .int x2)]) hx hb (dq dt_X2_layNextRow 41 rfl) hl (k := 2) rfl ev29.symm (by decide) rfl (fun ls hl => ?_)
                  refine lv_goto (tgt := 47) hx hb (dq dt_X2_layNextRow 42 rfl) (by decide) ?_
                  exact ih8 v29 hF _ _ _ hw (lv_sub hl [1, 2, 0] rfl)
          exact L8 _ v6 hF _ _ _ hw (lv_sub hl [1, 2, 0] rfl)
        · replace hF := if_f c5 hF
          refine lv_iconst (v := (0 : Int32)) hx hb (dq dt_X2_layNextRow 22 rfl) (by decide) ?_
          cases hF
          exact kRetZ hQ C rfl hw (dq dt_X2_layNextRow 23 rfl)
      refine lv_if_lt (tgt := 34) hx hb (dq dt_X2_layNextRow 6 rfl) (by decide) (fun c30 => ?_) (fun c30 => ?_)
      · replace hF := if_t c30 hF
        exact J4 hF _ _ _ hw (lv_sub hl [0, 1] rfl)
      · replace hF := if_f c30 hF
        refine lv_aload_n hx hb (dq dt_X2_layNextRow 7 rfl) rfl (lv_at hl 0 rfl) ?_
        refine kGet (ci := 2) C in_X2 hw 0 rfl rfl 3 (by decide) (C.2.2.2.2.2.2.1 _ q1_205) rfl rfl (dq dt_X2_layNextRow 8 rfl) ?_
        refine lv_iload_n hx hb (dq dt_X2_layNextRow 9 rfl) rfl (lv_at hl 1 rfl) ?_
        obtain ⟨v31, ev31, hi32, hF⟩ := rd_ hF
        refine kIald C hw 1 1 rfl rfl hi32 ev31 (dq dt_X2_layNextRow 10 rfl) ?_
        refine lv_aload_n hx hb (dq dt_X2_layNextRow 11 rfl) rfl (lv_at hl 0 rfl) ?_
        refine kGet (ci := 2) C in_X2 hw 0 rfl rfl 3 (by decide) (C.2.2.2.2.2.2.1 _ q1_205) rfl rfl (dq dt_X2_layNextRow 12 rfl) ?_
        refine lv_iload_n hx hb (dq dt_X2_layNextRow 13 rfl) rfl (lv_at hl 1 rfl) ?_
        refine lv_iconst (v := (1 : Int32)) hx hb (dq dt_X2_layNextRow 14 rfl) (by decide) ?_
        refine lv_iadd hx hb (dq dt_X2_layNextRow 15 rfl) ?_
        obtain ⟨v33, ev33, hi34, hF⟩ := rd_ hF
        refine kIald C hw 1 1 rfl rfl hi34 ev33 (dq dt_X2_layNextRow 16 rfl) ?_
        refine lv_icmp_le (tgt := 34) hx hb (dq dt_X2_layNextRow 17 rfl) (by decide) (fun c35 => ?_) (fun c35 => ?_)
        · replace hF := if_t c35 hF
          exact J4 hF _ _ _ hw (lv_sub hl [0, 1] rfl)
        · replace hF := if_f c35 hF
          obtain ⟨v36, ev36, hF⟩ := bd_ hF
          refine lv_iinc (v := v36) (lv' := [(1, .int v36), (0, .ref a_e)]) hx hb (dq dt_X2_layNextRow 18 rfl) hl (k := 1) rfl ev36.symm (by decide) rfl (fun ls hl => ?_)
          refine lv_goto (tgt := 7) hx hb (dq dt_X2_layNextRow 19 rfl) (by decide) ?_
          exact ih3 v36 hF _ _ _ hw (lv_sub hl [1, 0] rfl)
  exact L3 _ v1 hF _ _ _ hw (lv_sub hl [1, 0] rfl)
def F_X2_findBestRow (t_seeps : Int32) (t_tides : Nat → Int32) (t_seepYard : Nat → Int32) (t_growth : Nat → Int32) (t_level : Nat → Int32) (n_hours : Int32) (n_size : Nat → Int32) (e_length : Int32) (e_fewestLost : Int32) (e_breakHour : Nat → Int32) (e_row : Nat → Int32) (e_bestRow : Nat → Int32) (p1 : Int32) (p2 : Int32) : Option (Int32 × Int32 × (Nat → Int32) × (Nat → Int32) × (Nat → Int32)) :=
  zc3 (F_X2_layFirstRow t_seeps t_tides t_growth t_level n_hours n_size e_length e_breakHour e_row p2) (fun g1 g2 g3 => zl5 (fun x5 x6 h7 h8 h9 ag10 => if (120 : Int32) ≤ x6 then (some (g1, h7, g2, h8, h9)) else (if x5 = 0 then (some (g1, h7, g2, h8, h9)) else (zc1 (F_X2_lostByRow t_seepYard g1 g2 h8 p1) (fun v13 => zj2 (fun h15 h16 => zc2 (F_X2_layNextRow g1 h8) (fun v18 g19 => bd (x6 + (1 : Int32)) (fun v21 => ag10 v18 v21 h15 g19 h16))) (fun K17 => if h7 ≤ v13 then (K17 h7 h9) else (bd (va_cpy h8 h9 0 0 5) (fun g23 => K17 v13 g23))))))) FU (1 : Int32) (0 : Int32) (6 : Int32) g3 e_bestRow)
abbrev rm_X2_findBestRow : Room := { frames := 5, cells := 0, slots := 0, locals := 111 }
theorem kd_X2_findBestRow : yX2_findBestRow.cls = RX2 ∧ yX2_findBestRow.cls ≠ "java/lang/invoke/MethodHandle" ∧ yX2_findBestRow.cls ≠ "java/lang/invoke/VarHandle" ∧ (parseMethodDescriptor yX2_findBestRow.desc).map (fun d => d.parameters.length) = some 2 := by decide +kernel
set_option maxRecDepth 100000 in
set_option maxHeartbeats 4000000 in
theorem A_X2_findBestRow (l : Launch) (D : va_G) (cB cI cJ cZ : ClassId) (ad : (Nat → Nat) × (Nat → Nat)) (a_t a_t_tides a_t_seepYard a_t_seepSize a_t_growth a_t_level a_t_kind a_t_childYard a_t_pace a_t_ear a_n a_n_size a_n_yard a_n_oranges a_f a_h a_f_breakHour a_f_heardInTime a_e a_e_breakHour a_e_row a_e_bestRow : Nat) (t_yards : Int32) (t_seeps : Int32) (t_children : Int32) (t_tides : Nat → Int32) (t_seepYard : Nat → Int32) (t_growth : Nat → Int32) (t_level : Nat → Int32) (n_hours : Int32) (n_filled : Int32) (n_toLesser : Int32) (n_size : Nat → Int32) (e_length : Int32) (e_fewestLost : Int32) (e_breakHour : Nat → Int32) (e_row : Nat → Int32) (e_bestRow : Nat → Int32) (p1 : Int32) (p2 : Int32) (e_length' : Int32) (e_fewestLost' : Int32) (e_breakHour' : Nat → Int32) (e_row' : Nat → Int32) (e_bestRow' : Nat → Int32) (hF : F_X2_findBestRow t_seeps t_tides t_seepYard t_growth t_level n_hours n_size e_length e_fewestLost e_breakHour e_row e_bestRow p1 p2 = some (e_length', e_fewestLost', e_breakHour', e_row', e_bestRow')) : kM l yX2_findBestRow (Cond.code yX2_findBestRow cX2_findBestRow 6 (none) :: W0) rm_X2_findBestRow D (kT cB cI cJ cZ) ad [.ref a_e, .int p1, .int p2] [(a_t, .inr (7, [.int t_yards, .ref a_t_tides, .int t_seeps, .ref a_t_seepYard, .ref a_t_seepSize, .ref a_t_growth, .ref a_t_level, .int t_children, .ref a_t_kind, .ref a_t_childYard, .ref a_t_pace, .ref a_t_ear])), (a_t_tides, .inl (cI, 12, .inl t_tides)), (a_t_seepYard, .inl (cI, 6, .inl t_seepYard)), (a_t_growth, .inl (cI, 6, .inl t_growth)), (a_t_level, .inl (cI, 6, .inl t_level)), (a_n, .inr (3, [.ref a_t, .int n_hours, .int n_filled, .ref a_n_size, .ref a_n_yard, .int n_toLesser, .ref a_n_oranges])), (a_n_size, .inl (cI, 6, .inl n_size)), (a_f, .inr (1, [.ref a_t, .ref a_n, .ref a_h, .ref a_f_breakHour, .ref a_f_heardInTime])), (a_e, .inr (2, [.ref a_t, .ref a_f, .ref a_e_breakHour, .ref a_e_row, .ref a_e_bestRow, .int e_length, .int e_fewestLost])), (a_e_breakHour, .inl (cI, 6, .inl e_breakHour)), (a_e_row, .inl (cI, 5, .inl e_row)), (a_e_bestRow, .inl (cI, 5, .inl e_bestRow))] none [(a_t, .inr (7, [.int t_yards, .ref a_t_tides, .int t_seeps, .ref a_t_seepYard, .ref a_t_seepSize, .ref a_t_growth, .ref a_t_level, .int t_children, .ref a_t_kind, .ref a_t_childYard, .ref a_t_pace, .ref a_t_ear])), (a_t_tides, .inl (cI, 12, .inl t_tides)), (a_t_seepYard, .inl (cI, 6, .inl t_seepYard)), (a_t_growth, .inl (cI, 6, .inl t_growth)), (a_t_level, .inl (cI, 6, .inl t_level)), (a_n, .inr (3, [.ref a_t, .int n_hours, .int n_filled, .ref a_n_size, .ref a_n_yard, .int n_toLesser, .ref a_n_oranges])), (a_n_size, .inl (cI, 6, .inl n_size)), (a_f, .inr (1, [.ref a_t, .ref a_n, .ref a_h, .ref a_f_breakHour, .ref a_f_heardInTime])), (a_e, .inr (2, [.ref a_t, .ref a_f, .ref a_e_breakHour, .ref a_e_row, .ref a_e_bestRow, .int (e_length'), .int (e_fewestLost')])), (a_e_breakHour, .inl (cI, 6, .inl (e_breakHour'))), (a_e_row, .inl (cI, 5, .inl (e_row'))), (a_e_bestRow, .inl (cI, 5, .inl (e_bestRow')))] := by
  unfold F_X2_findBestRow at hF
  refine kStart (lv := [(0, .ref a_e), (1, .int p1), (2, .int p2)]) (own := "DikeWatch$Men") (plainFor_of_name (by decide)) rfl (Nat.le_of_ble_eq_true rfl) rfl ?_
  intro p e s m args below meth c A Q ls hQ C hx hb hw hl
  refine lv_aload_n hx hb (dq dt_X2_findBestRow 0 rfl) rfl (lv_at hl 0 rfl) ?_
  refine lv_iload_n hx hb (dq dt_X2_findBestRow 1 rfl) rfl (lv_at hl 2 rfl) ?_
  obtain ⟨g1, g2, g3, hr4, hF⟩ := zc3_ hF
  refine kCallV (ws2 := [(a_t, .inr (7, [.int t_yards, .ref a_t_tides, .int t_seeps, .ref a_t_seepYard, .ref a_t_seepSize, .ref a_t_growth, .ref a_t_level, .int t_children, .ref a_t_kind, .ref a_t_childYard, .ref a_t_pace, .ref a_t_ear])), (a_t_tides, .inl (cI, 12, .inl t_tides)), (a_t_seepYard, .inl (cI, 6, .inl t_seepYard)), (a_t_growth, .inl (cI, 6, .inl t_growth)), (a_t_level, .inl (cI, 6, .inl t_level)), (a_n, .inr (3, [.ref a_t, .int n_hours, .int n_filled, .ref a_n_size, .ref a_n_yard, .int n_toLesser, .ref a_n_oranges])), (a_n_size, .inl (cI, 6, .inl n_size)), (a_f, .inr (1, [.ref a_t, .ref a_n, .ref a_h, .ref a_f_breakHour, .ref a_f_heardInTime])), (a_e, .inr (2, [.ref a_t, .ref a_f, .ref a_e_breakHour, .ref a_e_row, .ref a_e_bestRow, .int g1, .int e_fewestLost])), (a_e_breakHour, .inl (cI, 6, .inl g2)), (a_e_row, .inl (cI, 5, .inl g3)), (a_e_bestRow, .inl (cI, 5, .inl e_bestRow))]) C hw (A_X2_layFirstRow l D cB cI cJ cZ ad a_t a_t_tides a_t_seepYard a_t_seepSize a_t_growth a_t_level a_t_kind a_t_childYard a_t_pace a_t_ear a_n a_n_size a_n_yard a_n_oranges a_f a_h a_f_breakHour a_f_heardInTime a_e a_e_breakHour a_e_row a_e_bestRow t_yards t_seeps t_children t_tides t_growth t_level n_hours n_filled n_toLesser n_size e_length e_fewestLost e_breakHour e_row p2 g1 g2 g3 hr4) (cwV 1 C.2.2.2.2.2.2.1 (w0_V0 q3_231 q3_228 q3_230 (ws0 16 rfl) q1_7) rfl rfl rfl kd_X2_layFirstRow ⟨Nat.le_of_ble_eq_true rfl, Nat.le_of_ble_eq_true rfl⟩) [0, 1, 3, 4, 5, 6, 7, 8, 9, 10] rfl rfl rfl rfl 8 2 rfl rfl hl.1 rfl rfl rfl (Nat.le_of_ble_eq_true rfl) ⟨Nat.le_of_ble_eq_true rfl, Nat.le_of_ble_eq_true rfl⟩ (dq dt_X2_findBestRow 2 rfl) (fun H locs hw => ?_)
  refine lv_aload_n hx hb (dq dt_X2_findBestRow 3 rfl) rfl (lv_at hl 0 rfl) ?_
  refine lv_bipush (v := (6 : Int32)) hx hb (dq dt_X2_findBestRow 4 rfl) (by decide) ?_
  refine kPut (ci := 2) (ws' := [(a_t, .inr (7, [.int t_yards, .ref a_t_tides, .int t_seeps, .ref a_t_seepYard, .ref a_t_seepSize, .ref a_t_growth, .ref a_t_level, .int t_children, .ref a_t_kind, .ref a_t_childYard, .ref a_t_pace, .ref a_t_ear])), (a_t_tides, .inl (cI, 12, .inl t_tides)), (a_t_seepYard, .inl (cI, 6, .inl t_seepYard)), (a_t_growth, .inl (cI, 6, .inl t_growth)), (a_t_level, .inl (cI, 6, .inl t_level)), (a_n, .inr (3, [.ref a_t, .int n_hours, .int n_filled, .ref a_n_size, .ref a_n_yard, .int n_toLesser, .ref a_n_oranges])), (a_n_size, .inl (cI, 6, .inl n_size)), (a_f, .inr (1, [.ref a_t, .ref a_n, .ref a_h, .ref a_f_breakHour, .ref a_f_heardInTime])), (a_e, .inr (2, [.ref a_t, .ref a_f, .ref a_e_breakHour, .ref a_e_row, .ref a_e_bestRow, .int g1, .int (6 : Int32)])), (a_e_breakHour, .inl (cI, 6, .inl g2)), (a_e_row, .inl (cI, 5, .inl g3)), (a_e_bestRow, .inl (cI, 5, .inl e_bestRow))]) C in_X2 tyX2 tyX2_ok nmX2 hw 8 rfl rfl 6 (by decide) (C.2.2.2.2.2.2.1 _ q1_208) rfl rfl rfl rfl (Nat.le_of_ble_eq_true rfl) rfl (dq dt_X2_findBestRow 5 rfl) (fun H locs hw => ?_)
  refine lv_iconst (v := (1 : Int32)) hx hb (dq dt_X2_findBestRow 6 rfl) (by decide) ?_
  refine lv_istore_n (lv' := [(3, .int (1 : Int32)), (0, .ref a_e), (1, .int p1), (2, .int p2)]) hx hb (dq dt_X2_findBestRow 7 rfl) rfl hl (by decide) rfl (fun ls hl => ?_)
  refine lv_iconst (v := (0 : Int32)) hx hb (dq dt_X2_findBestRow 8 rfl) (by decide) ?_
  refine lv_istore (lv' := [(4, .int (0 : Int32)), (3, .int (1 : Int32)), (0, .ref a_e), (1, .int p1), (2, .int p2)]) hx hb (dq dt_X2_findBestRow 9 rfl) hl (by decide) rfl (fun ls hl => ?_)
  obtain ⟨K10, hK010, hK10, hF⟩ := zl5_ hF
  have L10 : ∀ (n : Nat) (x5 : Int32) (x6 : Int32) (h7 : Int32) (h8 : Nat → Int32) (h9 : Nat → Int32), K10 n x5 x6 h7 h8 h9 = some (e_length', e_fewestLost', e_breakHour', e_row', e_bestRow') → ∀ (H : Heap) (locs : List Loc) (ls : Array Slot), kW D A s.heap [(a_t, .inr (7, [.int t_yards, .ref a_t_tides, .int t_seeps, .ref a_t_seepYard, .ref a_t_seepSize, .ref a_t_growth, .ref a_t_level, .int t_children, .ref a_t_kind, .ref a_t_childYard, .ref a_t_pace, .ref a_t_ear])), (a_t_tides, .inl (cI, 12, .inl t_tides)), (a_t_seepYard, .inl (cI, 6, .inl t_seepYard)), (a_t_growth, .inl (cI, 6, .inl t_growth)), (a_t_level, .inl (cI, 6, .inl t_level)), (a_n, .inr (3, [.ref a_t, .int n_hours, .int n_filled, .ref a_n_size, .ref a_n_yard, .int n_toLesser, .ref a_n_oranges])), (a_n_size, .inl (cI, 6, .inl n_size)), (a_f, .inr (1, [.ref a_t, .ref a_n, .ref a_h, .ref a_f_breakHour, .ref a_f_heardInTime])), (a_e, .inr (2, [.ref a_t, .ref a_f, .ref a_e_breakHour, .ref a_e_row, .ref a_e_bestRow, .int g1, .int h7])), (a_e_breakHour, .inl (cI, 6, .inl g2)), (a_e_row, .inl (cI, 5, .inl h8)), (a_e_bestRow, .inl (cI, 5, .inl h9))] H locs → lv_has ls 6 [(0, .ref a_e), (1, .int p1), (3, .int x5), (4, .int x6)] → W p l e rm_X2_findBestRow s m args below meth c H locs 0 0 Q (F0 m 16 ls []) := by
    intro n
    induction n with
    | zero => intro x5 x6 h7 h8 h9 hF; exact (lp_no (hK010 x5 x6 h7 h8 h9) hF).elim
    | succ n ih10 =>
      intro x5 x6 h7 h8 h9 hF H locs ls hw hl
      replace hF := hK10 n x5 x6 h7 h8 h9 hF
      refine lv_iload hx hb (dq dt_X2_findBestRow 10 rfl) (lv_at hl 3 rfl) ?_
      refine lv_bipush (v := (120 : Int32)) hx hb (dq dt_X2_findBestRow 11 rfl) (by decide) ?_
      refine lv_icmp_ge (tgt := 74) hx hb (dq dt_X2_findBestRow 12 rfl) (by decide) (fun c11 => ?_) (fun c11 => ?_)
      · replace hF := if_t c11 hF
        cases hF
        exact kRetV hQ C hw (dq dt_X2_findBestRow 39 rfl)
      · replace hF := if_f c11 hF
        refine lv_iload_n hx hb (dq dt_X2_findBestRow 13 rfl) rfl (lv_at hl 2 rfl) ?_
        refine lv_if_eq (tgt := 74) hx hb (dq dt_X2_findBestRow 14 rfl) (by decide) (fun c12 => ?_) (fun c12 => ?_)
        · replace hF := if_t c12 hF
          cases hF
          exact kRetV hQ C hw (dq dt_X2_findBestRow 39 rfl)
        · replace hF := if_f c12 hF
          refine lv_aload_n hx hb (dq dt_X2_findBestRow 15 rfl) rfl (lv_at hl 0 rfl) ?_
          refine lv_iload_n hx hb (dq dt_X2_findBestRow 16 rfl) rfl (lv_at hl 1 rfl) ?_
          obtain ⟨v13, hr14, hF⟩ := zc1_ hF
          refine kCallVR C hw (A_X2_lostByRow l D cB cI cJ cZ ad a_t a_t_tides a_t_seepYard a_t_seepSize a_t_growth a_t_level a_t_kind a_t_childYard a_t_pace a_t_ear a_e a_f a_e_breakHour a_e_row a_e_bestRow t_yards t_seeps t_children t_seepYard g1 h7 g2 h8 p1 v13 hr14) (cwV 1 C.2.2.2.2.2.2.1 (w0_V0 q3_237 q3_234 q3_236 (ws0 17 rfl) q1_7) rfl rfl rfl kd_X2_lostByRow ⟨Nat.le_of_ble_eq_true rfl, Nat.le_of_ble_eq_true rfl⟩) [0, 2, 8, 9, 10] rfl rfl 8 2 rfl rfl hl.1 rfl rfl rfl (Nat.le_of_ble_eq_true rfl) ⟨Nat.le_of_ble_eq_true rfl, Nat.le_of_ble_eq_true rfl⟩ (dq dt_X2_findBestRow 17 rfl) (fun H locs hw => ?_)
          refine lv_istore (lv' := [(5, .int v13), (0, .ref a_e), (1, .int p1), (3, .int x5), (4, .int x6)]) hx hb (dq dt_X2_findBestRow 18 rfl) hl (by decide) rfl (fun ls hl => ?_)
          refine lv_iload hx hb (dq dt_X2_findBestRow 19 rfl) (lv_at hl 0 rfl) ?_
          refine lv_aload_n hx hb (dq dt_X2_findBestRow 20 rfl) rfl (lv_at hl 1 rfl) ?_
          refine kGet (ci := 2) C in_X2 hw 8 rfl rfl 6 (by decide) (C.2.2.2.2.2.2.1 _ q1_208) rfl rfl (dq dt_X2_findBestRow 21 rfl) ?_
          obtain ⟨K17, hK17, hF⟩ := zj2_ hF
          have J17 : ∀ (h15 : Int32) (h16 : Nat → Int32), K17 h15 h16 = some (e_length', e_fewestLost', e_breakHour', e_row', e_bestRow') → ∀ (H : Heap) (locs : List Loc) (ls : Array Slot), kW D A s.heap [(a_t, .inr (7, [.int t_yards, .ref a_t_tides, .int t_seeps, .ref a_t_seepYard, .ref a_t_seepSize, .ref a_t_growth, .ref a_t_level, .int t_children, .ref a_t_kind, .ref a_t_childYard, .ref a_t_pace, .ref a_t_ear])), (a_t_tides, .inl (cI, 12, .inl t_tides)), (a_t_seepYard, .inl (cI, 6, .inl t_seepYard)), (a_t_growth, .inl (cI, 6, .inl t_growth)), (a_t_level, .inl (cI, 6, .inl t_level)), (a_n, .inr (3, [.ref a_t, .int n_hours, .int n_filled, .ref a_n_size, .ref a_n_yard, .int n_toLesser, .ref a_n_oranges])), (a_n_size, .inl (cI, 6, .inl n_size)), (a_f, .inr (1, [.ref a_t, .ref a_n, .ref a_h, .ref a_f_breakHour, .ref a_f_heardInTime])), (a_e, .inr (2, [.ref a_t, .ref a_f, .ref a_e_breakHour, .ref a_e_row, .ref a_e_bestRow, .int g1, .int h15])), (a_e_breakHour, .inl (cI, 6, .inl g2)), (a_e_row, .inl (cI, 5, .inl h8)), (a_e_bestRow, .inl (cI, 5, .inl h16))] H locs → lv_has ls 6 [(0, .ref a_e), (1, .int p1), (4, .int x6)] → W p l e rm_X2_findBestRow s m args below meth c H locs 0 0 Q (F0 m 63 ls []) := by
            intro h15 h16 hF H locs ls hw hl
            replace hF := hK17 h15 h16 hF
            refine lv_aload_n hx hb (dq dt_X2_findBestRow 34 rfl) rfl (lv_at hl 0 rfl) ?_
            obtain ⟨v18, g19, hr20, hF⟩ := zc2_ hF
            refine kCallV (ws2 := [(a_t, .inr (7, [.int t_yards, .ref a_t_tides, .int t_seeps, .ref a_t_seepYard, .ref a_t_seepSize, .ref a_t_growth, .ref a_t_level, .int t_children, .ref a_t_kind, .ref a_t_childYard, .ref a_t_pace, .ref a_t_ear])), (a_t_tides, .inl (cI, 12, .inl t_tides)), (a_t_seepYard, .inl (cI, 6, .inl t_seepYard)), (a_t_growth, .inl (cI, 6, .inl t_growth)), (a_t_level, .inl (cI, 6, .inl t_level)), (a_n, .inr (3, [.ref a_t, .int n_hours, .int n_filled, .ref a_n_size, .ref a_n_yard, .int n_toLesser, .ref a_n_oranges])), (a_n_size, .inl (cI, 6, .inl n_size)), (a_f, .inr (1, [.ref a_t, .ref a_n, .ref a_h, .ref a_f_breakHour, .ref a_f_heardInTime])), (a_e, .inr (2, [.ref a_t, .ref a_f, .ref a_e_breakHour, .ref a_e_row, .ref a_e_bestRow, .int g1, .int h15])), (a_e_breakHour, .inl (cI, 6, .inl g2)), (a_e_row, .inl (cI, 5, .inl g19)), (a_e_bestRow, .inl (cI, 5, .inl h16))]) C hw (A_X2_layNextRow l D cB cI cJ cZ ad a_e a_t a_f a_e_breakHour a_e_row a_e_bestRow g1 h15 h8 v18 g19 hr20) (cwV 0 C.2.2.2.2.2.2.1 (w0_V0 q4_3 q4_0 q4_2 (ws0 18 rfl) q1_7) rfl rfl rfl kd_X2_layNextRow ⟨Nat.le_of_ble_eq_true rfl, Nat.le_of_ble_eq_true rfl⟩) [8, 10] rfl rfl rfl rfl 8 2 rfl rfl hl.1 rfl rfl rfl (Nat.le_of_ble_eq_true rfl) ⟨Nat.le_of_ble_eq_true rfl, Nat.le_of_ble_eq_true rfl⟩ (dq dt_X2_findBestRow 35 rfl) (fun H locs hw => ?_)
            refine lv_istore_n (lv' := [(3, .int v18), (0, .ref a_e), (1, .int p1), (4, .int x6)]) hx hb (dq dt_X2_findBestRow 36 rfl) rfl hl (by decide) rfl (fun ls hl => ?_)
            obtain ⟨v21, ev21, hF⟩ := bd_ hF
            refine lv_iinc (v := v21) (lv' := [(4, .int v21), (3, .int v18), (0, .ref a_e), (1, .int p1)]) hx hb (dq dt_X2_findBestRow 37 rfl) hl (k := 3) rfl ev21.symm (by decide) rfl (fun ls hl => ?_)
            refine lv_goto (tgt := 16) hx hb (dq dt_X2_findBestRow 38 rfl) (by decide) ?_
            exact ih10 v18 v21 h15 g19 h16 hF _ _ _ hw (lv_sub hl [2, 3, 1, 0] rfl)
          refine lv_icmp_ge (tgt := 63) hx hb (dq dt_X2_findBestRow 22 rfl) (by decide) (fun c22 => ?_) (fun c22 => ?_)
          · replace hF := if_t c22 hF
            exact J17 h7 h9 hF _ _ _ hw (lv_sub hl [1, 2, 4] rfl)
          · replace hF := if_f c22 hF
            refine lv_aload_n hx hb (dq dt_X2_findBestRow 23 rfl) rfl (lv_at hl 1 rfl) ?_
            refine lv_iload hx hb (dq dt_X2_findBestRow 24 rfl) (lv_at hl 0 rfl) ?_
            refine kPut (ci := 2) (ws' := [(a_t, .inr (7, [.int t_yards, .ref a_t_tides, .int t_seeps, .ref a_t_seepYard, .ref a_t_seepSize, .ref a_t_growth, .ref a_t_level, .int t_children, .ref a_t_kind, .ref a_t_childYard, .ref a_t_pace, .ref a_t_ear])), (a_t_tides, .inl (cI, 12, .inl t_tides)), (a_t_seepYard, .inl (cI, 6, .inl t_seepYard)), (a_t_growth, .inl (cI, 6, .inl t_growth)), (a_t_level, .inl (cI, 6, .inl t_level)), (a_n, .inr (3, [.ref a_t, .int n_hours, .int n_filled, .ref a_n_size, .ref a_n_yard, .int n_toLesser, .ref a_n_oranges])), (a_n_size, .inl (cI, 6, .inl n_size)), (a_f, .inr (1, [.ref a_t, .ref a_n, .ref a_h, .ref a_f_breakHour, .ref a_f_heardInTime])), (a_e, .inr (2, [.ref a_t, .ref a_f, .ref a_e_breakHour, .ref a_e_row, .ref a_e_bestRow, .int g1, .int v13])), (a_e_breakHour, .inl (cI, 6, .inl g2)), (a_e_row, .inl (cI, 5, .inl h8)), (a_e_bestRow, .inl (cI, 5, .inl h9))]) C in_X2 tyX2 tyX2_ok nmX2 hw 8 rfl rfl 6 (by decide) (C.2.2.2.2.2.2.1 _ q1_208) rfl rfl rfl rfl (Nat.le_of_ble_eq_true rfl) rfl (dq dt_X2_findBestRow 25 rfl) (fun H locs hw => ?_)
            refine lv_aload_n hx hb (dq dt_X2_findBestRow 26 rfl) rfl (lv_at hl 1 rfl) ?_
            refine kGet (ci := 2) C in_X2 hw 8 rfl rfl 3 (by decide) (C.2.2.2.2.2.2.1 _ q1_205) rfl rfl (dq dt_X2_findBestRow 27 rfl) ?_
            refine lv_iconst (v := (0 : Int32)) hx hb (dq dt_X2_findBestRow 28 rfl) (by decide) ?_
            refine lv_aload_n hx hb (dq dt_X2_findBestRow 29 rfl) rfl (lv_at hl 1 rfl) ?_
            refine kGet (ci := 2) C in_X2 hw 8 rfl rfl 4 (by decide) (C.2.2.2.2.2.2.1 _ q1_206) rfl rfl (dq dt_X2_findBestRow 30 rfl) ?_
            refine lv_iconst (v := (0 : Int32)) hx hb (dq dt_X2_findBestRow 31 rfl) (by decide) ?_
            refine lv_iconst (v := (5 : Int32)) hx hb (dq dt_X2_findBestRow 32 rfl) (by decide) ?_
            obtain ⟨g23, eg23, hF⟩ := bd_ hF
            refine kCopyI (ws' := [(a_t, .inr (7, [.int t_yards, .ref a_t_tides, .int t_seeps, .ref a_t_seepYard, .ref a_t_seepSize, .ref a_t_growth, .ref a_t_level, .int t_children, .ref a_t_kind, .ref a_t_childYard, .ref a_t_pace, .ref a_t_ear])), (a_t_tides, .inl (cI, 12, .inl t_tides)), (a_t_seepYard, .inl (cI, 6, .inl t_seepYard)), (a_t_growth, .inl (cI, 6, .inl t_growth)), (a_t_level, .inl (cI, 6, .inl t_level)), (a_n, .inr (3, [.ref a_t, .int n_hours, .int n_filled, .ref a_n_size, .ref a_n_yard, .int n_toLesser, .ref a_n_oranges])), (a_n_size, .inl (cI, 6, .inl n_size)), (a_f, .inr (1, [.ref a_t, .ref a_n, .ref a_h, .ref a_f_breakHour, .ref a_f_heardInTime])), (a_e, .inr (2, [.ref a_t, .ref a_f, .ref a_e_breakHour, .ref a_e_row, .ref a_e_bestRow, .int g1, .int v13])), (a_e_breakHour, .inl (cI, 6, .inl g2)), (a_e_row, .inl (cI, 5, .inl h8)), (a_e_bestRow, .inl (cI, 5, .inl g23))]) C hl.1 (C.2.2.2.2.2.2.1 _ q3_239) (C.2.2.2.2.2.2.1 _ q2_88) (C.2.2.2.2.2.2.1 _ q2_87) (C.2.2.2.2.2.2.1 _ q1_11) hw 10 11 1 rfl rfl rfl (by decide) (by decide) (by decide) eg23 rfl (Nat.le_of_ble_eq_true rfl) (Nat.le_of_ble_eq_true rfl) (dq dt_X2_findBestRow 33 rfl) (fun H locs hw => ?_)
            exact J17 v13 g23 hF _ _ _ hw (lv_sub hl [1, 2, 4] rfl)
  exact L10 _ (1 : Int32) (0 : Int32) (6 : Int32) g3 e_bestRow hF _ _ _ hw (lv_sub hl [2, 3, 1, 0] rfl)
def F_X2_bestAt (e_length : Int32) (e_bestRow : Nat → Int32) (p1 : Int32) : Option (Int32) :=
  if p1 < 0 then (some (-1 : Int32)) else (if e_length ≤ p1 then (some (-1 : Int32)) else (rd 5 e_bestRow p1 (fun v3 => some v3)))
abbrev rm_X2_bestAt : Room := { frames := 0, cells := 0, slots := 0, locals := 0 }
theorem kd_X2_bestAt : yX2_bestAt.cls = RX2 ∧ yX2_bestAt.cls ≠ "java/lang/invoke/MethodHandle" ∧ yX2_bestAt.cls ≠ "java/lang/invoke/VarHandle" ∧ (parseMethodDescriptor yX2_bestAt.desc).map (fun d => d.parameters.length) = some 1 := by decide +kernel
set_option maxRecDepth 100000 in
set_option maxHeartbeats 4000000 in
theorem A_X2_bestAt (l : Launch) (D : va_G) (cB cI cJ cZ : ClassId) (ad : (Nat → Nat) × (Nat → Nat)) (a_e a_t a_f a_e_breakHour a_e_row a_e_bestRow : Nat) (e_length : Int32) (e_fewestLost : Int32) (e_bestRow : Nat → Int32) (p1 : Int32) (r : Int32) (hF : F_X2_bestAt e_length e_bestRow p1 = some r) : kM l yX2_bestAt (Cond.code yX2_bestAt cX2_bestAt 2 (some .int) :: W0) rm_X2_bestAt D (kT cB cI cJ cZ) ad [.ref a_e, .int p1] [(a_e, .inr (2, [.ref a_t, .ref a_f, .ref a_e_breakHour, .ref a_e_row, .ref a_e_bestRow, .int e_length, .int e_fewestLost])), (a_e_bestRow, .inl (cI, 5, .inl e_bestRow))] (some (.int r)) [(a_e, .inr (2, [.ref a_t, .ref a_f, .ref a_e_breakHour, .ref a_e_row, .ref a_e_bestRow, .int e_length, .int e_fewestLost])), (a_e_bestRow, .inl (cI, 5, .inl e_bestRow))] := by
  unfold F_X2_bestAt at hF
  refine kStart (lv := [(0, .ref a_e), (1, .int p1)]) (own := "DikeWatch$Men") (plainFor_of_name (by decide)) rfl (Nat.le_of_ble_eq_true rfl) rfl ?_
  intro p e s m args below meth c A Q ls hQ C hx hb hw hl
  refine lv_iload_n hx hb (dq dt_X2_bestAt 0 rfl) rfl (lv_at hl 1 rfl) ?_
  refine lv_if_lt (tgt := 21) hx hb (dq dt_X2_bestAt 1 rfl) (by decide) (fun c1 => ?_) (fun c1 => ?_)
  · replace hF := if_t c1 hF
    refine lv_iconst (v := (-1 : Int32)) hx hb (dq dt_X2_bestAt 11 rfl) (by decide) ?_
    cases hF
    exact kRetI hQ C hw (dq dt_X2_bestAt 12 rfl)
  · replace hF := if_f c1 hF
    refine lv_iload_n hx hb (dq dt_X2_bestAt 2 rfl) rfl (lv_at hl 1 rfl) ?_
    refine lv_aload_n hx hb (dq dt_X2_bestAt 3 rfl) rfl (lv_at hl 0 rfl) ?_
    refine kGet (ci := 2) C in_X2 hw 0 rfl rfl 5 (by decide) (C.2.2.2.2.2.2.1 _ q1_207) rfl rfl (dq dt_X2_bestAt 4 rfl) ?_
    refine lv_icmp_ge (tgt := 21) hx hb (dq dt_X2_bestAt 5 rfl) (by decide) (fun c2 => ?_) (fun c2 => ?_)
    · replace hF := if_t c2 hF
      refine lv_iconst (v := (-1 : Int32)) hx hb (dq dt_X2_bestAt 11 rfl) (by decide) ?_
      cases hF
      exact kRetI hQ C hw (dq dt_X2_bestAt 12 rfl)
    · replace hF := if_f c2 hF
      refine lv_aload_n hx hb (dq dt_X2_bestAt 6 rfl) rfl (lv_at hl 0 rfl) ?_
      refine kGet (ci := 2) C in_X2 hw 0 rfl rfl 4 (by decide) (C.2.2.2.2.2.2.1 _ q1_206) rfl rfl (dq dt_X2_bestAt 7 rfl) ?_
      refine lv_iload_n hx hb (dq dt_X2_bestAt 8 rfl) rfl (lv_at hl 1 rfl) ?_
      obtain ⟨v3, ev3, hi4, hF⟩ := rd_ hF
      refine kIald C hw 1 1 rfl rfl hi4 ev3 (dq dt_X2_bestAt 9 rfl) ?_
      refine lv_goto (tgt := 22) hx hb (dq dt_X2_bestAt 10 rfl) (by decide) ?_
      cases hF
      exact kRetI hQ C hw (dq dt_X2_bestAt 12 rfl)
def F_X8_order (t_yards : Int32) (t_seeps : Int32) (t_tides : Nat → Int32) (t_seepYard : Nat → Int32) (t_growth : Nat → Int32) (t_level : Nat → Int32) (n_hours : Int32) (n_filled : Int32) (n_size : Nat → Int32) (e_length : Int32) (e_fewestLost : Int32) (e_breakHour : Nat → Int32) (e_row : Nat → Int32) (e_bestRow : Nat → Int32) (p1 : Int32) (p2 : Int32) (p3 : Int32) : Option (Int32 × Int32 × Int32 × (Nat → Int32) × (Nat → Int32) × (Nat → Int32)) :=
  zc1 (F_X7_hasYard t_yards p1) (fun v1 => if v1 = 0 then (some ((-2 : Int32), e_length, e_fewestLost, e_breakHour, e_row, e_bestRow)) else (zc1 (F_X7_hasSeeps t_seeps p2) (fun v4 => if v4 = 0 then (some ((-2 : Int32), e_length, e_fewestLost, e_breakHour, e_row, e_bestRow)) else (if (-1 : Int32) ≤ p3 then (zc1 (F_J6_bitCount_0f7a4 p2) (fun v8 => if (5 : Int32) < v8 then (some ((-4 : Int32), e_length, e_fewestLost, e_breakHour, e_row, e_bestRow)) else (if (p2 &&& n_filled) = 0 then (zc5 (F_X2_findBestRow t_seeps t_tides t_seepYard t_growth t_level n_hours n_size e_length e_fewestLost e_breakHour e_row e_bestRow p1 p2) (fun g12 g13 g14 g15 g16 => if p3 = (-1 : Int32) then (some (g13, g12, g13, g14, g15, g16)) else (zc1 (F_X2_bestAt g12 g16 p3) (fun v19 => some (v19, g12, g13, g14, g15, g16))))) else (some ((-4 : Int32), e_length, e_fewestLost, e_breakHour, e_row, e_bestRow))))) else (some ((-3 : Int32), e_length, e_fewestLost, e_breakHour, e_row, e_bestRow))))))
abbrev rm_X8_order : Room := { frames := 6, cells := 0, slots := 0, locals := 136 }
theorem kd_X8_order : yX8_order.cls = RX8 ∧ yX8_order.cls ≠ "java/lang/invoke/MethodHandle" ∧ yX8_order.cls ≠ "java/lang/invoke/VarHandle" ∧ (parseMethodDescriptor yX8_order.desc).map (fun d => d.parameters.length) = some 3 := by decide +kernel
set_option maxRecDepth 100000 in
set_option maxHeartbeats 4000000 in
theorem A_X8_order (l : Launch) (D : va_G) (cB cI cJ cZ : ClassId) (ad : (Nat → Nat) × (Nat → Nat)) (a_d a_x a_t a_g a_r a_n a_k a_j a_f a_e a_z a_c a_t_tides a_t_seepYard a_t_seepSize a_t_growth a_t_level a_t_kind a_t_childYard a_t_pace a_t_ear a_n_size a_n_yard a_n_oranges a_h a_f_breakHour a_f_heardInTime a_e_breakHour a_e_row a_e_bestRow : Nat) (d_keptBits : Int32) (t_yards : Int32) (t_seeps : Int32) (t_children : Int32) (t_tides : Nat → Int32) (t_seepYard : Nat → Int32) (t_growth : Nat → Int32) (t_level : Nat → Int32) (n_hours : Int32) (n_filled : Int32) (n_toLesser : Int32) (n_size : Nat → Int32) (e_length : Int32) (e_fewestLost : Int32) (e_breakHour : Nat → Int32) (e_row : Nat → Int32) (e_bestRow : Nat → Int32) (p1 : Int32) (p2 : Int32) (p3 : Int32) (r : Int32) (e_length' : Int32) (e_fewestLost' : Int32) (e_breakHour' : Nat → Int32) (e_row' : Nat → Int32) (e_bestRow' : Nat → Int32) (hF : F_X8_order t_yards t_seeps t_tides t_seepYard t_growth t_level n_hours n_filled n_size e_length e_fewestLost e_breakHour e_row e_bestRow p1 p2 p3 = some (r, e_length', e_fewestLost', e_breakHour', e_row', e_bestRow')) : kM l yX8_order (Cond.code yX8_order cX8_order 4 (some .int) :: W0) rm_X8_order D (kT cB cI cJ cZ) ad [.ref a_d, .int p1, .int p2, .int p3] [(a_d, .inr (8, [.ref a_x, .ref a_t, .ref a_g, .ref a_r, .ref a_n, .ref a_k, .ref a_j, .int d_keptBits, .ref a_f, .ref a_e, .ref a_z, .ref a_c])), (a_t, .inr (7, [.int t_yards, .ref a_t_tides, .int t_seeps, .ref a_t_seepYard, .ref a_t_seepSize, .ref a_t_growth, .ref a_t_level, .int t_children, .ref a_t_kind, .ref a_t_childYard, .ref a_t_pace, .ref a_t_ear])), (a_t_tides, .inl (cI, 12, .inl t_tides)), (a_t_seepYard, .inl (cI, 6, .inl t_seepYard)), (a_t_growth, .inl (cI, 6, .inl t_growth)), (a_t_level, .inl (cI, 6, .inl t_level)), (a_n, .inr (3, [.ref a_t, .int n_hours, .int n_filled, .ref a_n_size, .ref a_n_yard, .int n_toLesser, .ref a_n_oranges])), (a_n_size, .inl (cI, 6, .inl n_size)), (a_f, .inr (1, [.ref a_t, .ref a_n, .ref a_h, .ref a_f_breakHour, .ref a_f_heardInTime])), (a_e, .inr (2, [.ref a_t, .ref a_f, .ref a_e_breakHour, .ref a_e_row, .ref a_e_bestRow, .int e_length, .int e_fewestLost])), (a_e_breakHour, .inl (cI, 6, .inl e_breakHour)), (a_e_row, .inl (cI, 5, .inl e_row)), (a_e_bestRow, .inl (cI, 5, .inl e_bestRow))] (some (.int r)) [(a_d, .inr (8, [.ref a_x, .ref a_t, .ref a_g, .ref a_r, .ref a_n, .ref a_k, .ref a_j, .int d_keptBits, .ref a_f, .ref a_e, .ref a_z, .ref a_c])), (a_t, .inr (7, [.int t_yards, .ref a_t_tides, .int t_seeps, .ref a_t_seepYard, .ref a_t_seepSize, .ref a_t_growth, .ref a_t_level, .int t_children, .ref a_t_kind, .ref a_t_childYard, .ref a_t_pace, .ref a_t_ear])), (a_t_tides, .inl (cI, 12, .inl t_tides)), (a_t_seepYard, .inl (cI, 6, .inl t_seepYard)), (a_t_growth, .inl (cI, 6, .inl t_growth)), (a_t_level, .inl (cI, 6, .inl t_level)), (a_n, .inr (3, [.ref a_t, .int n_hours, .int n_filled, .ref a_n_size, .ref a_n_yard, .int n_toLesser, .ref a_n_oranges])), (a_n_size, .inl (cI, 6, .inl n_size)), (a_f, .inr (1, [.ref a_t, .ref a_n, .ref a_h, .ref a_f_breakHour, .ref a_f_heardInTime])), (a_e, .inr (2, [.ref a_t, .ref a_f, .ref a_e_breakHour, .ref a_e_row, .ref a_e_bestRow, .int (e_length'), .int (e_fewestLost')])), (a_e_breakHour, .inl (cI, 6, .inl (e_breakHour'))), (a_e_row, .inl (cI, 5, .inl (e_row'))), (a_e_bestRow, .inl (cI, 5, .inl (e_bestRow')))] := by
  unfold F_X8_order at hF
  refine kStart (lv := [(0, .ref a_d), (1, .int p1), (2, .int p2), (3, .int p3)]) (own := "DikeWatch") (plainFor_of_name (by decide)) rfl (Nat.le_of_ble_eq_true rfl) rfl ?_
  intro p e s m args below meth c A Q ls hQ C hx hb hw hl
  refine lv_aload_n hx hb (dq dt_X8_order 0 rfl) rfl (lv_at hl 0 rfl) ?_
  refine kGet (ci := 8) C in_X8 hw 0 rfl rfl 1 (by decide) (C.2.2.2.2.2.2.1 _ q2_23) rfl rfl (dq dt_X8_order 1 rfl) ?_
  refine lv_iload_n hx hb (dq dt_X8_order 2 rfl) rfl (lv_at hl 1 rfl) ?_
  obtain ⟨v1, hr2, hF⟩ := zc1_ hF
  refine kCallVR C hw (A_X7_hasYard l D cB cI cJ cZ ad a_t a_t_tides a_t_seepYard a_t_seepSize a_t_growth a_t_level a_t_kind a_t_childYard a_t_pace a_t_ear t_yards t_seeps t_children p1 v1 hr2) (cwV 1 C.2.2.2.2.2.2.1 (w0_V0 q3_105 q3_102 q3_103 q3_104 q1_3) rfl rfl rfl kd_X7_hasYard ⟨Nat.le_of_ble_eq_true rfl, Nat.le_of_ble_eq_true rfl⟩) [1] rfl rfl 1 7 rfl rfl hl.1 rfl rfl rfl (Nat.le_of_ble_eq_true rfl) ⟨Nat.le_of_ble_eq_true rfl, Nat.le_of_ble_eq_true rfl⟩ (dq dt_X8_order 3 rfl) (fun H locs hw => ?_)
  refine lv_if_eq (tgt := 22) hx hb (dq dt_X8_order 4 rfl) (by decide) (fun c3 => ?_) (fun c3 => ?_)
  · replace hF := if_t c3 hF
    refine lv_bipush (v := (-2 : Int32)) hx hb (dq dt_X8_order 10 rfl) (by decide) ?_
    cases hF
    exact kRetI hQ C hw (dq dt_X8_order 11 rfl)
  · replace hF := if_f c3 hF
    refine lv_aload_n hx hb (dq dt_X8_order 5 rfl) rfl (lv_at hl 0 rfl) ?_
    refine kGet (ci := 8) C in_X8 hw 0 rfl rfl 1 (by decide) (C.2.2.2.2.2.2.1 _ q2_23) rfl rfl (dq dt_X8_order 6 rfl) ?_
    refine lv_iload_n hx hb (dq dt_X8_order 7 rfl) rfl (lv_at hl 2 rfl) ?_
    obtain ⟨v4, hr5, hF⟩ := zc1_ hF
    refine kCallVR C hw (A_X7_hasSeeps l D cB cI cJ cZ ad a_t a_t_tides a_t_seepYard a_t_seepSize a_t_growth a_t_level a_t_kind a_t_childYard a_t_pace a_t_ear t_yards t_seeps t_children p2 v4 hr5) (cwV 1 C.2.2.2.2.2.2.1 (w0_V0 q3_223 q3_220 q3_221 q3_222 q1_3) rfl rfl rfl kd_X7_hasSeeps ⟨Nat.le_of_ble_eq_true rfl, Nat.le_of_ble_eq_true rfl⟩) [1] rfl rfl 1 7 rfl rfl hl.1 rfl rfl rfl (Nat.le_of_ble_eq_true rfl) ⟨Nat.le_of_ble_eq_true rfl, Nat.le_of_ble_eq_true rfl⟩ (dq dt_X8_order 8 rfl) (fun H locs hw => ?_)
    refine lv_if_ne (tgt := 25) hx hb (dq dt_X8_order 9 rfl) (by decide) (fun c6 => ?_) (fun c6 => ?_)
    · replace hF := if_f c6 hF
      refine lv_iload_n hx hb (dq dt_X8_order 12 rfl) rfl (lv_at hl 3 rfl) ?_
      refine lv_iconst (v := (-1 : Int32)) hx hb (dq dt_X8_order 13 rfl) (by decide) ?_
      refine lv_icmp_ge (tgt := 33) hx hb (dq dt_X8_order 14 rfl) (by decide) (fun c7 => ?_) (fun c7 => ?_)
      · replace hF := if_t c7 hF
        refine lv_iload_n hx hb (dq dt_X8_order 17 rfl) rfl (lv_at hl 2 rfl) ?_
        obtain ⟨v8, hr9, hF⟩ := zc1_ hF
        refine kCallSP C hw (A_J6_bitCount_0f7a4 l D cB cI cJ cZ ad p2 v8 hr9) (va_cwS 1 C.2.2.2.2.2.2.1 (w0_S0 q3_207 q3_215 q3_206 q1_18) rfl rfl rfl ke_J6_bitCount_0f7a4 ⟨Nat.le_of_ble_eq_true rfl, Nat.le_of_ble_eq_true rfl⟩) hl.1 rfl rfl rfl (Nat.le_of_ble_eq_true rfl) ⟨Nat.le_of_ble_eq_true rfl, Nat.le_of_ble_eq_true rfl⟩ (dq dt_X8_order 18 rfl) (fun H locs hw => ?_)
        refine lv_iconst (v := (5 : Int32)) hx hb (dq dt_X8_order 19 rfl) (by decide) ?_
        refine lv_icmp_gt (tgt := 53) hx hb (dq dt_X8_order 20 rfl) (by decide) (fun c10 => ?_) (fun c10 => ?_)
        · replace hF := if_t c10 hF
          refine lv_bipush (v := (-4 : Int32)) hx hb (dq dt_X8_order 27 rfl) (by decide) ?_
          cases hF
          exact kRetI hQ C hw (dq dt_X8_order 28 rfl)
        · replace hF := if_f c10 hF
          refine lv_iload_n hx hb (dq dt_X8_order 21 rfl) rfl (lv_at hl 2 rfl) ?_
          refine lv_aload_n hx hb (dq dt_X8_order 22 rfl) rfl (lv_at hl 0 rfl) ?_
          refine kGet (ci := 8) C in_X8 hw 0 rfl rfl 4 (by decide) (C.2.2.2.2.2.2.1 _ q2_26) rfl rfl (dq dt_X8_order 23 rfl) ?_
          refine kGet (ci := 3) C in_X3 hw 6 rfl rfl 2 (by decide) (C.2.2.2.2.2.2.1 _ q1_124) rfl rfl (dq dt_X8_order 24 rfl) ?_
          refine lv_iand hx hb (dq dt_X8_order 25 rfl) ?_
          refine lv_if_eq (tgt := 56) hx hb (dq dt_X8_order 26 rfl) (by decide) (fun c11 => ?_) (fun c11 => ?_)
          · replace hF := if_t c11 hF
            refine lv_aload_n hx hb (dq dt_X8_order 29 rfl) rfl (lv_at hl 0 rfl) ?_
            refine kGet (ci := 8) C in_X8 hw 0 rfl rfl 9 (by decide) (C.2.2.2.2.2.2.1 _ q2_31) rfl rfl (dq dt_X8_order 30 rfl) ?_
            refine lv_iload_n hx hb (dq dt_X8_order 31 rfl) rfl (lv_at hl 1 rfl) ?_
            refine lv_iload_n hx hb (dq dt_X8_order 32 rfl) rfl (lv_at hl 2 rfl) ?_
            obtain ⟨g12, g13, g14, g15, g16, hr17, hF⟩ := zc5_ hF
            refine kCallV (ws2 := [(a_d, .inr (8, [.ref a_x, .ref a_t, .ref a_g, .ref a_r, .ref a_n, .ref a_k, .ref a_j, .int d_keptBits, .ref a_f, .ref a_e, .ref a_z, .ref a_c])), (a_t, .inr (7, [.int t_yards, .ref a_t_tides, .int t_seeps, .ref a_t_seepYard, .ref a_t_seepSize, .ref a_t_growth, .ref a_t_level, .int t_children, .ref a_t_kind, .ref a_t_childYard, .ref a_t_pace, .ref a_t_ear])), (a_t_tides, .inl (cI, 12, .inl t_tides)), (a_t_seepYard, .inl (cI, 6, .inl t_seepYard)), (a_t_growth, .inl (cI, 6, .inl t_growth)), (a_t_level, .inl (cI, 6, .inl t_level)), (a_n, .inr (3, [.ref a_t, .int n_hours, .int n_filled, .ref a_n_size, .ref a_n_yard, .int n_toLesser, .ref a_n_oranges])), (a_n_size, .inl (cI, 6, .inl n_size)), (a_f, .inr (1, [.ref a_t, .ref a_n, .ref a_h, .ref a_f_breakHour, .ref a_f_heardInTime])), (a_e, .inr (2, [.ref a_t, .ref a_f, .ref a_e_breakHour, .ref a_e_row, .ref a_e_bestRow, .int g12, .int g13])), (a_e_breakHour, .inl (cI, 6, .inl g14)), (a_e_row, .inl (cI, 5, .inl g15)), (a_e_bestRow, .inl (cI, 5, .inl g16))]) C hw (A_X2_findBestRow l D cB cI cJ cZ ad a_t a_t_tides a_t_seepYard a_t_seepSize a_t_growth a_t_level a_t_kind a_t_childYard a_t_pace a_t_ear a_n a_n_size a_n_yard a_n_oranges a_f a_h a_f_breakHour a_f_heardInTime a_e a_e_breakHour a_e_row a_e_bestRow t_yards t_seeps t_children t_tides t_seepYard t_growth t_level n_hours n_filled n_toLesser n_size e_length e_fewestLost e_breakHour e_row e_bestRow p1 p2 g12 g13 g14 g15 g16 hr17) (cwV 2 C.2.2.2.2.2.2.1 (w0_V0 q3_227 q3_224 q3_225 q3_226 q1_7) rfl rfl rfl kd_X2_findBestRow ⟨Nat.le_of_ble_eq_true rfl, Nat.le_of_ble_eq_true rfl⟩) [1, 2, 3, 4, 5, 6, 7, 8, 9, 10, 11, 12] rfl rfl rfl rfl 9 2 rfl rfl hl.1 rfl rfl rfl (Nat.le_of_ble_eq_true rfl) ⟨Nat.le_of_ble_eq_true rfl, Nat.le_of_ble_eq_true rfl⟩ (dq dt_X8_order 33 rfl) (fun H locs hw => ?_)
            refine lv_iload_n hx hb (dq dt_X8_order 34 rfl) rfl (lv_at hl 3 rfl) ?_
            refine lv_iconst (v := (-1 : Int32)) hx hb (dq dt_X8_order 35 rfl) (by decide) ?_
            refine lv_icmp_ne (tgt := 80) hx hb (dq dt_X8_order 36 rfl) (by decide) (fun c18 => ?_) (fun c18 => ?_)
            · replace hF := if_f c18 hF
              refine lv_aload_n hx hb (dq dt_X8_order 41 rfl) rfl (lv_at hl 0 rfl) ?_
              refine kGet (ci := 8) C in_X8 hw 0 rfl rfl 9 (by decide) (C.2.2.2.2.2.2.1 _ q2_31) rfl rfl (dq dt_X8_order 42 rfl) ?_
              refine lv_iload_n hx hb (dq dt_X8_order 43 rfl) rfl (lv_at hl 3 rfl) ?_
              obtain ⟨v19, hr20, hF⟩ := zc1_ hF
              refine kCallVR C hw (A_X2_bestAt l D cB cI cJ cZ ad a_e a_t a_f a_e_breakHour a_e_row a_e_bestRow g12 g13 g16 p3 v19 hr20) (cwV 1 C.2.2.2.2.2.2.1 (w0_V0 q4_11 q4_8 q4_9 q4_10 q1_7) rfl rfl rfl kd_X2_bestAt ⟨Nat.le_of_ble_eq_true rfl, Nat.le_of_ble_eq_true rfl⟩) [9, 12] rfl rfl 9 2 rfl rfl hl.1 rfl rfl rfl (Nat.le_of_ble_eq_true rfl) ⟨Nat.le_of_ble_eq_true rfl, Nat.le_of_ble_eq_true rfl⟩ (dq dt_X8_order 44 rfl) (fun H locs hw => ?_)
              cases hF
              exact kRetI hQ C hw (dq dt_X8_order 45 rfl)
            · replace hF := if_t c18 hF
              refine lv_aload_n hx hb (dq dt_X8_order 37 rfl) rfl (lv_at hl 0 rfl) ?_
              refine kGet (ci := 8) C in_X8 hw 0 rfl rfl 9 (by decide) (C.2.2.2.2.2.2.1 _ q2_31) rfl rfl (dq dt_X8_order 38 rfl) ?_
              refine kGet (ci := 2) C in_X2 hw 9 rfl rfl 6 (by decide) (C.2.2.2.2.2.2.1 _ q1_209) rfl rfl (dq dt_X8_order 39 rfl) ?_
              refine lv_goto (tgt := 88) hx hb (dq dt_X8_order 40 rfl) (by decide) ?_
              cases hF
              exact kRetI hQ C hw (dq dt_X8_order 45 rfl)
          · replace hF := if_f c11 hF
            refine lv_bipush (v := (-4 : Int32)) hx hb (dq dt_X8_order 27 rfl) (by decide) ?_
            cases hF
            exact kRetI hQ C hw (dq dt_X8_order 28 rfl)
      · replace hF := if_f c7 hF
        refine lv_bipush (v := (-3 : Int32)) hx hb (dq dt_X8_order 15 rfl) (by decide) ?_
        cases hF
        exact kRetI hQ C hw (dq dt_X8_order 16 rfl)
    · replace hF := if_t c6 hF
      refine lv_bipush (v := (-2 : Int32)) hx hb (dq dt_X8_order 10 rfl) (by decide) ?_
      cases hF
      exact kRetI hQ C hw (dq dt_X8_order 11 rfl)
def F_X8_growthsToBreak (p1 : Int32) (p2 : Int32) : Option (Int32) :=
  if p1 < (100 : Int32) then (if p2 ≤ 0 then (some (-1 : Int32)) else (ckI p2 (some (((((100 : Int32) - p1) + p2) - (1 : Int32)) / p2)))) else (some (0 : Int32))
abbrev rm_X8_growthsToBreak : Room := { frames := 0, cells := 0, slots := 0, locals := 0 }
theorem ke_X8_growthsToBreak : yX8_growthsToBreak.cls ≠ "java/lang/invoke/MethodHandle" ∧ yX8_growthsToBreak.cls ≠ "java/lang/invoke/VarHandle" ∧ (parseMethodDescriptor yX8_growthsToBreak.desc).map (fun d => d.parameters.length) = some 2 := by decide +kernel
set_option maxRecDepth 100000 in
set_option maxHeartbeats 4000000 in
theorem A_X8_growthsToBreak (l : Launch) (D : va_G) (cB cI cJ cZ : ClassId) (ad : (Nat → Nat) × (Nat → Nat)) (p1 : Int32) (p2 : Int32) (r : Int32) (hF : F_X8_growthsToBreak p1 p2 = some r) : kM l yX8_growthsToBreak (Cond.code yX8_growthsToBreak cX8_growthsToBreak 2 (some .int) :: W0) rm_X8_growthsToBreak D (kT cB cI cJ cZ) ad [.int p1, .int p2] [] (some (.int r)) [] := by
  unfold F_X8_growthsToBreak at hF
  refine kStart (lv := [(0, .int p1), (1, .int p2)]) (own := "DikeWatch") (plainFor_of_name (by decide)) rfl (Nat.le_of_ble_eq_true rfl) rfl ?_
  intro p e s m args below meth c A Q ls hQ C hx hb hw hl
  refine lv_iload_n hx hb (dq dt_X8_growthsToBreak 0 rfl) rfl (lv_at hl 0 rfl) ?_
  refine lv_bipush (v := (100 : Int32)) hx hb (dq dt_X8_growthsToBreak 1 rfl) (by decide) ?_
  refine lv_icmp_lt (tgt := 8) hx hb (dq dt_X8_growthsToBreak 2 rfl) (by decide) (fun c1 => ?_) (fun c1 => ?_)
  · replace hF := if_t c1 hF
    refine lv_iload_n hx hb (dq dt_X8_growthsToBreak 5 rfl) rfl (lv_at hl 1 rfl) ?_
    refine lv_if_le (tgt := 25) hx hb (dq dt_X8_growthsToBreak 6 rfl) (by decide) (fun c2 => ?_) (fun c2 => ?_)
    · replace hF := if_t c2 hF
      refine lv_iconst (v := (-1 : Int32)) hx hb (dq dt_X8_growthsToBreak 17 rfl) (by decide) ?_
      cases hF
      exact kRetI hQ C hw (dq dt_X8_growthsToBreak 18 rfl)
    · replace hF := if_f c2 hF
      refine lv_bipush (v := (100 : Int32)) hx hb (dq dt_X8_growthsToBreak 7 rfl) (by decide) ?_
      refine lv_iload_n hx hb (dq dt_X8_growthsToBreak 8 rfl) rfl (lv_at hl 0 rfl) ?_
      refine lv_isub hx hb (dq dt_X8_growthsToBreak 9 rfl) ?_
      refine lv_iload_n hx hb (dq dt_X8_growthsToBreak 10 rfl) rfl (lv_at hl 1 rfl) ?_
      refine lv_iadd hx hb (dq dt_X8_growthsToBreak 11 rfl) ?_
      refine lv_iconst (v := (1 : Int32)) hx hb (dq dt_X8_growthsToBreak 12 rfl) (by decide) ?_
      refine lv_isub hx hb (dq dt_X8_growthsToBreak 13 rfl) ?_
      refine lv_iload_n hx hb (dq dt_X8_growthsToBreak 14 rfl) rfl (lv_at hl 1 rfl) ?_
      obtain ⟨hz3, hF⟩ := ckI_ hF
      refine lv_idiv hx hb (dq dt_X8_growthsToBreak 15 rfl) hz3 ?_
      refine lv_goto (tgt := 26) hx hb (dq dt_X8_growthsToBreak 16 rfl) (by decide) ?_
      cases hF
      exact kRetI hQ C hw (dq dt_X8_growthsToBreak 18 rfl)
  · replace hF := if_f c1 hF
    refine lv_iconst (v := (0 : Int32)) hx hb (dq dt_X8_growthsToBreak 3 rfl) (by decide) ?_
    cases hF
    exact kRetI hQ C hw (dq dt_X8_growthsToBreak 4 rfl)
def F_J7_fill_d0a16 (arr : Nat → Int64) (N : Nat) (p2 : Int64) : Option ((Nat → Int64)) :=
  bd (Int32.ofNat N) (fun v1 => zl2 (fun x2 h3 ag4 => if v1 ≤ x2 then (some h3) else (wr N x2 (vp_updL h3 (x2).toNatClampNeg p2) (fun g6 => bd (x2 + (1 : Int32)) (fun v8 => ag4 v8 g6)))) FU (0 : Int32) arr)
abbrev rm_J7_fill_d0a16 : Room := { frames := 0, cells := 0, slots := 0, locals := 0 }
theorem ke_J7_fill_d0a16 : yJ7_fill_d0a16.cls ≠ "java/lang/invoke/MethodHandle" ∧ yJ7_fill_d0a16.cls ≠ "java/lang/invoke/VarHandle" ∧ (parseMethodDescriptor yJ7_fill_d0a16.desc).map (fun d => d.parameters.length) = some 2 := by decide +kernel
set_option maxRecDepth 100000 in
set_option maxHeartbeats 4000000 in
theorem A_J7_fill_d0a16 (l : Launch) (D : va_G) (cB cI cJ cZ : ClassId) (ad : (Nat → Nat) × (Nat → Nat)) (a_P : Nat) (arr : Nat → Int64) (N : Nat) (p2 : Int64) (arr' : Nat → Int64) (hF : F_J7_fill_d0a16 arr N p2 = some arr') : kM l yJ7_fill_d0a16 (Cond.code yJ7_fill_d0a16 cJ7_fill_d0a16 5 (none) :: W0) rm_J7_fill_d0a16 D (kT cB cI cJ cZ) ad [.ref a_P, .long p2] [(a_P, .inl (cJ, N, .inr (.inl arr)))] none [(a_P, .inl (cJ, N, .inr (.inl arr')))] := by
  unfold F_J7_fill_d0a16 at hF
  refine kStart (lv := [(0, .ref a_P), (1, .long p2)]) (own := "java/util/Arrays") (by decide +kernel) rfl (Nat.le_of_ble_eq_true rfl) rfl ?_
  intro p e s m args below meth c A Q ls hQ C hx hb hw hl
  refine lv_iconst (v := (0 : Int32)) hx hb (dq dt_J7_fill_d0a16 0 rfl) (by decide) ?_
  refine lv_istore_n (lv' := [(3, .int (0 : Int32)), (0, .ref a_P), (1, .long p2)]) hx hb (dq dt_J7_fill_d0a16 1 rfl) rfl hl (by decide) rfl (fun ls hl => ?_)
  refine lv_aload_n hx hb (dq dt_J7_fill_d0a16 2 rfl) rfl (lv_at hl 1 rfl) ?_
  refine kAlen C hw 0 2 rfl rfl rfl (dq dt_J7_fill_d0a16 3 rfl) ?_
  obtain ⟨v1, ev1, hF⟩ := bd_ hF
  refine kNmI ev1 ?_
  refine lv_istore (lv' := [(4, .int v1), (3, .int (0 : Int32)), (0, .ref a_P), (1, .long p2)]) hx hb (dq dt_J7_fill_d0a16 4 rfl) hl (by decide) rfl (fun ls hl => ?_)
  obtain ⟨K4, hK04, hK4, hF⟩ := zl2_ hF
  have L4 : ∀ (n : Nat) (x2 : Int32) (h3 : Nat → Int64), K4 n x2 h3 = some arr' → ∀ (H : Heap) (locs : List Loc) (ls : Array Slot), kW D A s.heap [(a_P, .inl (cJ, N, .inr (.inl h3)))] H locs → lv_has ls 5 [(0, .ref a_P), (1, .long p2), (3, .int x2), (4, .int v1)] → W p l e rm_J7_fill_d0a16 s m args below meth c H locs 0 0 Q (F0 m 6 ls []) := by
    intro n
    induction n with
    | zero => intro x2 h3 hF; exact (lp_no (hK04 x2 h3) hF).elim
    | succ n ih4 =>
      intro x2 h3 hF H locs ls hw hl
      replace hF := hK4 n x2 h3 hF
      refine lv_iload_n hx hb (dq dt_J7_fill_d0a16 5 rfl) rfl (lv_at hl 2 rfl) ?_
      refine lv_iload hx hb (dq dt_J7_fill_d0a16 6 rfl) (lv_at hl 3 rfl) ?_
      refine lv_icmp_ge (tgt := 22) hx hb (dq dt_J7_fill_d0a16 7 rfl) (by decide) (fun c5 => ?_) (fun c5 => ?_)
      · replace hF := if_t c5 hF
        cases hF
        exact kRetV hQ C hw (dq dt_J7_fill_d0a16 14 rfl)
      · replace hF := if_f c5 hF
        refine lv_aload_n hx hb (dq dt_J7_fill_d0a16 8 rfl) rfl (lv_at hl 0 rfl) ?_
        refine lv_iload_n hx hb (dq dt_J7_fill_d0a16 9 rfl) rfl (lv_at hl 2 rfl) ?_
        refine lv_lload_n hx hb (dq dt_J7_fill_d0a16 10 rfl) rfl (lv_at hl 1 rfl) ?_
        obtain ⟨g6, eg6, hi7, hF⟩ := wr_ hF
        refine kLast (ws' := [(a_P, .inl (cJ, N, .inr (.inl g6)))]) C hw 0 2 rfl rfl hi7 eg6 rfl (dq dt_J7_fill_d0a16 11 rfl) (fun H locs hw => ?_)
        obtain ⟨v8, ev8, hF⟩ := bd_ hF
        refine lv_iinc (v := v8) (lv' := [(3, .int v8), (0, .ref a_P), (1, .long p2), (4, .int v1)]) hx hb (dq dt_J7_fill_d0a16 12 rfl) hl (k := 2) rfl ev8.symm (by decide) rfl (fun ls hl => ?_)
        refine lv_goto (tgt := 6) hx hb (dq dt_J7_fill_d0a16 13 rfl) (by decide) ?_
        exact ih4 v8 g6 hF _ _ _ hw (lv_sub hl [1, 2, 0, 3] rfl)
  exact L4 _ (0 : Int32) arr hF _ _ _ hw (lv_sub hl [2, 3, 1, 0] rfl)
def F_X5_countWays (z_ways : Nat → Int64) (p1 : Int32) (p2 : Int32) : Option ((Nat → Int64)) :=
  zc1 (F_J7_fill_d0a16 z_ways 19 (0 : Int64)) (fun g1 => wr 19 (0 : Int32) (vp_updL g1 ((0 : Int32)).toNatClampNeg (1 : Int64)) (fun g3 => zl2 (fun x5 h6 ag7 => if p1 < x5 then (some h6) else (if (18 : Int32) < x5 then (some h6) else (zl2 (fun x10 h11 ag12 => if x10 ≤ 0 then (rd 19 h11 (0 : Int32) (fun v14 => bd (v14 * (((10 : Int32) - p2).toInt64)) (fun v16 => wr 19 (0 : Int32) (vp_updL h11 ((0 : Int32)).toNatClampNeg v16) (fun g17 => bd (x5 + (1 : Int32)) (fun v19 => ag7 v19 g17))))) else (rd 19 h11 x10 (fun v20 => rd 19 h11 (x10 - (1 : Int32)) (fun v22 => bd ((v20 * (((10 : Int32) - p2).toInt64)) + (v22 * (p2.toInt64))) (fun v24 => wr 19 x10 (vp_updL h11 (x10).toNatClampNeg v24) (fun g25 => bd (x10 + (-1 : Int32)) (fun v27 => ag12 v27 g25))))))) FU x5 h6))) FU (1 : Int32) g3))
abbrev rm_X5_countWays : Room := { frames := 1, cells := 0, slots := 0, locals := 24 }
theorem kd_X5_countWays : yX5_countWays.cls = RX5 ∧ yX5_countWays.cls ≠ "java/lang/invoke/MethodHandle" ∧ yX5_countWays.cls ≠ "java/lang/invoke/VarHandle" ∧ (parseMethodDescriptor yX5_countWays.desc).map (fun d => d.parameters.length) = some 2 := by decide +kernel
set_option maxRecDepth 100000 in
set_option maxHeartbeats 4000000 in
theorem A_X5_countWays (l : Launch) (D : va_G) (cB cI cJ cZ : ClassId) (ad : (Nat → Nat) × (Nat → Nat)) (a_z a_z_ways : Nat) (z_above : Int64) (z_below : Int64) (z_ways : Nat → Int64) (p1 : Int32) (p2 : Int32) (z_ways' : Nat → Int64) (hF : F_X5_countWays z_ways p1 p2 = some z_ways') : kM l yX5_countWays (Cond.code yX5_countWays cX5_countWays 5 (none) :: W0) rm_X5_countWays D (kT cB cI cJ cZ) ad [.ref a_z, .int p1, .int p2] [(a_z, .inr (5, [.ref a_z_ways, .long z_above, .long z_below])), (a_z_ways, .inl (cJ, 19, .inr (.inl z_ways)))] none [(a_z, .inr (5, [.ref a_z_ways, .long z_above, .long z_below])), (a_z_ways, .inl (cJ, 19, .inr (.inl (z_ways'))))] := by
  unfold F_X5_countWays at hF
  refine kStart (lv := [(0, .ref a_z), (1, .int p1), (2, .int p2)]) (own := "DikeWatch$Storms") (plainFor_of_name (by decide)) rfl (Nat.le_of_ble_eq_true rfl) rfl ?_
  intro p e s m args below meth c A Q ls hQ C hx hb hw hl
  refine lv_aload_n hx hb (dq dt_X5_countWays 0 rfl) rfl (lv_at hl 0 rfl) ?_
  refine kGet (ci := 5) C in_X5 hw 0 rfl rfl 0 (by decide) (C.2.2.2.2.2.2.1 _ q1_231) rfl rfl (dq dt_X5_countWays 1 rfl) ?_
  refine lv_lconst (v := (0 : Int64)) hx hb (dq dt_X5_countWays 2 rfl) (by decide) ?_
  obtain ⟨g1, hr2, hF⟩ := zc1_ hF
  refine kCallS (ws2 := [(a_z, .inr (5, [.ref a_z_ways, .long z_above, .long z_below])), (a_z_ways, .inl (cJ, 19, .inr (.inl g1)))]) C hw (A_J7_fill_d0a16 l D cB cI cJ cZ ad a_z_ways z_ways 19 (0 : Int64) g1 hr2) (va_cwS 2 C.2.2.2.2.2.2.1 (w0_S0 q4_32 q4_30 q4_31 q1_16) rfl rfl rfl ke_J7_fill_d0a16 ⟨Nat.le_of_ble_eq_true rfl, Nat.le_of_ble_eq_true rfl⟩) [1] rfl rfl rfl rfl hl.1 rfl rfl rfl (Nat.le_of_ble_eq_true rfl) ⟨Nat.le_of_ble_eq_true rfl, Nat.le_of_ble_eq_true rfl⟩ (dq dt_X5_countWays 3 rfl) (fun H locs hw => ?_)
  refine lv_aload_n hx hb (dq dt_X5_countWays 4 rfl) rfl (lv_at hl 0 rfl) ?_
  refine kGet (ci := 5) C in_X5 hw 0 rfl rfl 0 (by decide) (C.2.2.2.2.2.2.1 _ q1_231) rfl rfl (dq dt_X5_countWays 5 rfl) ?_
  refine lv_iconst (v := (0 : Int32)) hx hb (dq dt_X5_countWays 6 rfl) (by decide) ?_
  refine lv_lconst (v := (1 : Int64)) hx hb (dq dt_X5_countWays 7 rfl) (by decide) ?_
  obtain ⟨g3, eg3, hi4, hF⟩ := wr_ hF
  refine kLast (ws' := [(a_z, .inr (5, [.ref a_z_ways, .long z_above, .long z_below])), (a_z_ways, .inl (cJ, 19, .inr (.inl g3)))]) C hw 1 2 rfl rfl hi4 eg3 rfl (dq dt_X5_countWays 8 rfl) (fun H locs hw => ?_)
  refine lv_iconst (v := (1 : Int32)) hx hb (dq dt_X5_countWays 9 rfl) (by decide) ?_
  refine lv_istore_n (lv' := [(3, .int (1 : Int32)), (0, .ref a_z), (1, .int p1), (2, .int p2)]) hx hb (dq dt_X5_countWays 10 rfl) rfl hl (by decide) rfl (fun ls hl => ?_)
  obtain ⟨K7, hK07, hK7, hF⟩ := zl2_ hF
  have L7 : ∀ (n : Nat) (x5 : Int32) (h6 : Nat → Int64), K7 n x5 h6 = some z_ways' → ∀ (H : Heap) (locs : List Loc) (ls : Array Slot), kW D A s.heap [(a_z, .inr (5, [.ref a_z_ways, .long z_above, .long z_below])), (a_z_ways, .inl (cJ, 19, .inr (.inl h6)))] H locs → lv_has ls 5 [(0, .ref a_z), (1, .int p1), (2, .int p2), (3, .int x5)] → W p l e rm_X5_countWays s m args below meth c H locs 0 0 Q (F0 m 17 ls []) := by
    intro n
    induction n with
    | zero => intro x5 h6 hF; exact (lp_no (hK07 x5 h6) hF).elim
    | succ n ih7 =>
      intro x5 h6 hF H locs ls hw hl
      replace hF := hK7 n x5 h6 hF
      refine lv_iload_n hx hb (dq dt_X5_countWays 11 rfl) rfl (lv_at hl 3 rfl) ?_
      refine lv_iload_n hx hb (dq dt_X5_countWays 12 rfl) rfl (lv_at hl 1 rfl) ?_
      refine lv_icmp_gt (tgt := 95) hx hb (dq dt_X5_countWays 13 rfl) (by decide) (fun c8 => ?_) (fun c8 => ?_)
      · replace hF := if_t c8 hF
        cases hF
        exact kRetV hQ C hw (dq dt_X5_countWays 59 rfl)
      · replace hF := if_f c8 hF
        refine lv_iload_n hx hb (dq dt_X5_countWays 14 rfl) rfl (lv_at hl 3 rfl) ?_
        refine lv_bipush (v := (18 : Int32)) hx hb (dq dt_X5_countWays 15 rfl) (by decide) ?_
        refine lv_icmp_gt (tgt := 95) hx hb (dq dt_X5_countWays 16 rfl) (by decide) (fun c9 => ?_) (fun c9 => ?_)
        · replace hF := if_t c9 hF
          cases hF
          exact kRetV hQ C hw (dq dt_X5_countWays 59 rfl)
        · replace hF := if_f c9 hF
          refine lv_iload_n hx hb (dq dt_X5_countWays 17 rfl) rfl (lv_at hl 3 rfl) ?_
          refine lv_istore (lv' := [(4, .int x5), (0, .ref a_z), (1, .int p1), (2, .int p2), (3, .int x5)]) hx hb (dq dt_X5_countWays 18 rfl) hl (by decide) rfl (fun ls hl => ?_)
          obtain ⟨K12, hK012, hK12, hF⟩ := zl2_ hF
          have L12 : ∀ (n : Nat) (x10 : Int32) (h11 : Nat → Int64), K12 n x10 h11 = some z_ways' → ∀ (H : Heap) (locs : List Loc) (ls : Array Slot), kW D A s.heap [(a_z, .inr (5, [.ref a_z_ways, .long z_above, .long z_below])), (a_z_ways, .inl (cJ, 19, .inr (.inl h11)))] H locs → lv_has ls 5 [(0, .ref a_z), (1, .int p1), (2, .int p2), (3, .int x5), (4, .int x10)] → W p l e rm_X5_countWays s m args below meth c H locs 0 0 Q (F0 m 31 ls []) := by
            intro n
            induction n with
            | zero => intro x10 h11 hF; exact (lp_no (hK012 x10 h11) hF).elim
            | succ n ih12 =>
              intro x10 h11 hF H locs ls hw hl
              replace hF := hK12 n x10 h11 hF
              refine lv_iload hx hb (dq dt_X5_countWays 19 rfl) (lv_at hl 4 rfl) ?_
              refine lv_if_le (tgt := 75) hx hb (dq dt_X5_countWays 20 rfl) (by decide) (fun c13 => ?_) (fun c13 => ?_)
              · replace hF := if_t c13 hF
                refine lv_aload_n hx hb (dq dt_X5_countWays 46 rfl) rfl (lv_at hl 0 rfl) ?_
                refine kGet (ci := 5) C in_X5 hw 0 rfl rfl 0 (by decide) (C.2.2.2.2.2.2.1 _ q1_231) rfl rfl (dq dt_X5_countWays 47 rfl) ?_
                refine lv_iconst (v := (0 : Int32)) hx hb (dq dt_X5_countWays 48 rfl) (by decide) ?_
                refine lv_dup2_11 hx hb (dq dt_X5_countWays 49 rfl) rfl rfl ?_
                obtain ⟨v14, ev14, hi15, hF⟩ := rd_ hF
                refine kLald C hw 1 2 rfl rfl hi15 ev14 (dq dt_X5_countWays 50 rfl) ?_
                refine lv_bipush (v := (10 : Int32)) hx hb (dq dt_X5_countWays 51 rfl) (by decide) ?_
                refine lv_iload_n hx hb (dq dt_X5_countWays 52 rfl) rfl (lv_at hl 2 rfl) ?_
                refine lv_isub hx hb (dq dt_X5_countWays 53 rfl) ?_
                refine lv_i2l (v := (((10 : Int32) - p2).toInt64)) hx hb (dq dt_X5_countWays 54 rfl) rfl ?_
                refine lv_lmul hx hb (dq dt_X5_countWays 55 rfl) ?_
                obtain ⟨v16, ev16, hF⟩ := bd_ hF
                refine kNmL ev16 ?_
                obtain ⟨g17, eg17, hi18, hF⟩ := wr_ hF
                refine kLast (ws' := [(a_z, .inr (5, [.ref a_z_ways, .long z_above, .long z_below])), (a_z_ways, .inl (cJ, 19, .inr (.inl g17)))]) C hw 1 2 rfl rfl hi18 eg17 rfl (dq dt_X5_countWays 56 rfl) (fun H locs hw => ?_)
                obtain ⟨v19, ev19, hF⟩ := bd_ hF
                refine lv_iinc (v := v19) (lv' := [(3, .int v19), (0, .ref a_z), (1, .int p1), (2, .int p2), (4, .int x10)]) hx hb (dq dt_X5_countWays 57 rfl) hl (k := 3) rfl ev19.symm (by decide) rfl (fun ls hl => ?_)
                refine lv_goto (tgt := 17) hx hb (dq dt_X5_countWays 58 rfl) (by decide) ?_
                exact ih7 v19 g17 hF _ _ _ hw (lv_sub hl [1, 2, 3, 0] rfl)
              · replace hF := if_f c13 hF
                refine lv_aload_n hx hb (dq dt_X5_countWays 21 rfl) rfl (lv_at hl 0 rfl) ?_
                refine kGet (ci := 5) C in_X5 hw 0 rfl rfl 0 (by decide) (C.2.2.2.2.2.2.1 _ q1_231) rfl rfl (dq dt_X5_countWays 22 rfl) ?_
                refine lv_iload hx hb (dq dt_X5_countWays 23 rfl) (lv_at hl 4 rfl) ?_
                refine lv_aload_n hx hb (dq dt_X5_countWays 24 rfl) rfl (lv_at hl 0 rfl) ?_
                refine kGet (ci := 5) C in_X5 hw 0 rfl rfl 0 (by decide) (C.2.2.2.2.2.2.1 _ q1_231) rfl rfl (dq dt_X5_countWays 25 rfl) ?_
                refine lv_iload hx hb (dq dt_X5_countWays 26 rfl) (lv_at hl 4 rfl) ?_
                obtain ⟨v20, ev20, hi21, hF⟩ := rd_ hF
                refine kLald C hw 1 2 rfl rfl hi21 ev20 (dq dt_X5_countWays 27 rfl) ?_
                refine lv_bipush (v := (10 : Int32)) hx hb (dq dt_X5_countWays 28 rfl) (by decide) ?_
                refine lv_iload_n hx hb (dq dt_X5_countWays 29 rfl) rfl (lv_at hl 2 rfl) ?_
                refine lv_isub hx hb (dq dt_X5_countWays 30 rfl) ?_
                refine lv_i2l (v := (((10 : Int32) - p2).toInt64)) hx hb (dq dt_X5_countWays 31 rfl) rfl ?_
                refine lv_lmul hx hb (dq dt_X5_countWays 32 rfl) ?_
                refine lv_aload_n hx hb (dq dt_X5_countWays 33 rfl) rfl (lv_at hl 0 rfl) ?_
                refine kGet (ci := 5) C in_X5 hw 0 rfl rfl 0 (by decide) (C.2.2.2.2.2.2.1 _ q1_231) rfl rfl (dq dt_X5_countWays 34 rfl) ?_
                refine lv_iload hx hb (dq dt_X5_countWays 35 rfl) (lv_at hl 4 rfl) ?_
                refine lv_iconst (v := (1 : Int32)) hx hb (dq dt_X5_countWays 36 rfl) (by decide) ?_
                refine lv_isub hx hb (dq dt_X5_countWays 37 rfl) ?_
                obtain ⟨v22, ev22, hi23, hF⟩ := rd_ hF
                refine kLald C hw 1 2 rfl rfl hi23 ev22 (dq dt_X5_countWays 38 rfl) ?_
                refine lv_iload_n hx hb (dq dt_X5_countWays 39 rfl) rfl (lv_at hl 2 rfl) ?_
                refine lv_i2l (v := (p2.toInt64)) hx hb (dq dt_X5_countWays 40 rfl) rfl ?_
                refine lv_lmul hx hb (dq dt_X5_countWays 41 rfl) ?_
                refine lv_ladd hx hb (dq dt_X5_countWays 42 rfl) ?_
                obtain ⟨v24, ev24, hF⟩ := bd_ hF
                refine kNmL ev24 ?_
                obtain ⟨g25, eg25, hi26, hF⟩ := wr_ hF
                refine kLast (ws' := [(a_z, .inr (5, [.ref a_z_ways, .long z_above, .long z_below])), (a_z_ways, .inl (cJ, 19, .inr (.inl g25)))]) C hw 1 2 rfl rfl hi26 eg25 rfl (dq dt_X5_countWays 43 rfl) (fun H locs hw => ?_)
                obtain ⟨v27, ev27, hF⟩ := bd_ hF
                refine lv_iinc (v := v27) (lv' := [(4, .int v27), (0, .ref a_z), (1, .int p1), (2, .int p2), (3, .int x5)]) hx hb (dq dt_X5_countWays 44 rfl) hl (k := 4) rfl ev27.symm (by decide) rfl (fun ls hl => ?_)
                refine lv_goto (tgt := 31) hx hb (dq dt_X5_countWays 45 rfl) (by decide) ?_
                exact ih12 v27 g25 hF _ _ _ hw (lv_sub hl [1, 2, 3, 4, 0] rfl)
          exact L12 _ x5 h6 hF _ _ _ hw (lv_sub hl [1, 2, 3, 4, 0] rfl)
  exact L7 _ (1 : Int32) g3 hF _ _ _ hw (lv_sub hl [1, 2, 3, 0] rfl)
def F_X5_cancel (z_above : Int64) (z_below : Int64) (p1 : Int32) : Option (Int64 × Int64) :=
  if p1 ≤ 0 then (some (z_above, z_below)) else (ckL (p1.toInt64) (if (lg_cmp (z_above - z_above / (p1.toInt64) * (p1.toInt64)) (0 : Int64)) = 0 then (ckL (p1.toInt64) (if (lg_cmp (z_below - z_below / (p1.toInt64) * (p1.toInt64)) (0 : Int64)) = 0 then (ckL (p1.toInt64) (bd (z_above / (p1.toInt64)) (fun v7 => ckL (p1.toInt64) (bd (z_below / (p1.toInt64)) (fun v9 => some (v7, v9)))))) else (some (z_above, z_below)))) else (some (z_above, z_below))))
abbrev rm_X5_cancel : Room := { frames := 0, cells := 0, slots := 0, locals := 0 }
theorem kd_X5_cancel : yX5_cancel.cls = RX5 ∧ yX5_cancel.cls ≠ "java/lang/invoke/MethodHandle" ∧ yX5_cancel.cls ≠ "java/lang/invoke/VarHandle" ∧ (parseMethodDescriptor yX5_cancel.desc).map (fun d => d.parameters.length) = some 1 := by decide +kernel
set_option maxRecDepth 100000 in
set_option maxHeartbeats 4000000 in
theorem A_X5_cancel (l : Launch) (D : va_G) (cB cI cJ cZ : ClassId) (ad : (Nat → Nat) × (Nat → Nat)) (a_z a_z_ways : Nat) (z_above : Int64) (z_below : Int64) (p1 : Int32) (z_above' : Int64) (z_below' : Int64) (hF : F_X5_cancel z_above z_below p1 = some (z_above', z_below')) : kM l yX5_cancel (Cond.code yX5_cancel cX5_cancel 2 (none) :: W0) rm_X5_cancel D (kT cB cI cJ cZ) ad [.ref a_z, .int p1] [(a_z, .inr (5, [.ref a_z_ways, .long z_above, .long z_below]))] none [(a_z, .inr (5, [.ref a_z_ways, .long (z_above'), .long (z_below')]))] := by
  unfold F_X5_cancel at hF
  refine kStart (lv := [(0, .ref a_z), (1, .int p1)]) (own := "DikeWatch$Storms") (plainFor_of_name (by decide)) rfl (Nat.le_of_ble_eq_true rfl) rfl ?_
  intro p e s m args below meth c A Q ls hQ C hx hb hw hl
  refine lv_iload_n hx hb (dq dt_X5_cancel 0 rfl) rfl (lv_at hl 1 rfl) ?_
  refine lv_if_le (tgt := 50) hx hb (dq dt_X5_cancel 1 rfl) (by decide) (fun c1 => ?_) (fun c1 => ?_)
  · replace hF := if_t c1 hF
    cases hF
    exact kRetV hQ C hw (dq dt_X5_cancel 32 rfl)
  · replace hF := if_f c1 hF
    refine lv_aload_n hx hb (dq dt_X5_cancel 2 rfl) rfl (lv_at hl 0 rfl) ?_
    refine kGet (ci := 5) C in_X5 hw 0 rfl rfl 1 (by decide) (C.2.2.2.2.2.2.1 _ q1_232) rfl rfl (dq dt_X5_cancel 3 rfl) ?_
    refine lv_iload_n hx hb (dq dt_X5_cancel 4 rfl) rfl (lv_at hl 1 rfl) ?_
    refine lv_i2l (v := (p1.toInt64)) hx hb (dq dt_X5_cancel 5 rfl) rfl ?_
    obtain ⟨hz2, hF⟩ := ckL_ hF
    refine lv_lrem hx hb (dq dt_X5_cancel 6 rfl) hz2 ?_
    refine lv_lconst (v := (0 : Int64)) hx hb (dq dt_X5_cancel 7 rfl) (by decide) ?_
    refine W.lcmp hx hb (dq dt_X5_cancel 8 rfl) ?_
    refine lv_if_ne (tgt := 50) hx hb (dq dt_X5_cancel 9 rfl) (by decide) (fun c3 => ?_) (fun c3 => ?_)
    · replace hF := if_f c3 hF
      cases hF
      exact kRetV hQ C hw (dq dt_X5_cancel 32 rfl)
    · replace hF := if_t c3 hF
      refine lv_aload_n hx hb (dq dt_X5_cancel 10 rfl) rfl (lv_at hl 0 rfl) ?_
      refine kGet (ci := 5) C in_X5 hw 0 rfl rfl 2 (by decide) (C.2.2.2.2.2.2.1 _ q1_234) rfl rfl (dq dt_X5_cancel 11 rfl) ?_
      refine lv_iload_n hx hb (dq dt_X5_cancel 12 rfl) rfl (lv_at hl 1 rfl) ?_
      refine lv_i2l (v := (p1.toInt64)) hx hb (dq dt_X5_cancel 13 rfl) rfl ?_
      obtain ⟨hz4, hF⟩ := ckL_ hF
      refine lv_lrem hx hb (dq dt_X5_cancel 14 rfl) hz4 ?_
      refine lv_lconst (v := (0 : Int64)) hx hb (dq dt_X5_cancel 15 rfl) (by decide) ?_
      refine W.lcmp hx hb (dq dt_X5_cancel 16 rfl) ?_
      refine lv_if_ne (tgt := 50) hx hb (dq dt_X5_cancel 17 rfl) (by decide) (fun c5 => ?_) (fun c5 => ?_)
      · replace hF := if_f c5 hF
        cases hF
        exact kRetV hQ C hw (dq dt_X5_cancel 32 rfl)
      · replace hF := if_t c5 hF
        refine lv_aload_n hx hb (dq dt_X5_cancel 18 rfl) rfl (lv_at hl 0 rfl) ?_
        refine lv_dup hx hb (dq dt_X5_cancel 19 rfl) rfl ?_
        refine kGet (ci := 5) C in_X5 hw 0 rfl rfl 1 (by decide) (C.2.2.2.2.2.2.1 _ q1_232) rfl rfl (dq dt_X5_cancel 20 rfl) ?_
        refine lv_iload_n hx hb (dq dt_X5_cancel 21 rfl) rfl (lv_at hl 1 rfl) ?_
        refine lv_i2l (v := (p1.toInt64)) hx hb (dq dt_X5_cancel 22 rfl) rfl ?_
        obtain ⟨hz6, hF⟩ := ckL_ hF
        refine lv_ldiv hx hb (dq dt_X5_cancel 23 rfl) hz6 ?_
        obtain ⟨v7, ev7, hF⟩ := bd_ hF
        refine kNmL ev7 ?_
        refine kPut (ci := 5) (ws' := [(a_z, .inr (5, [.ref a_z_ways, .long v7, .long z_below]))]) C in_X5 tyX5 tyX5_ok nmX5 hw 0 rfl rfl 1 (by decide) (C.2.2.2.2.2.2.1 _ q1_232) rfl rfl rfl rfl (Nat.le_of_ble_eq_true rfl) rfl (dq dt_X5_cancel 24 rfl) (fun H locs hw => ?_)
        refine lv_aload_n hx hb (dq dt_X5_cancel 25 rfl) rfl (lv_at hl 0 rfl) ?_
        refine lv_dup hx hb (dq dt_X5_cancel 26 rfl) rfl ?_
        refine kGet (ci := 5) C in_X5 hw 0 rfl rfl 2 (by decide) (C.2.2.2.2.2.2.1 _ q1_234) rfl rfl (dq dt_X5_cancel 27 rfl) ?_
        refine lv_iload_n hx hb (dq dt_X5_cancel 28 rfl) rfl (lv_at hl 1 rfl) ?_
        refine lv_i2l (v := (p1.toInt64)) hx hb (dq dt_X5_cancel 29 rfl) rfl ?_
        obtain ⟨hz8, hF⟩ := ckL_ hF
        refine lv_ldiv hx hb (dq dt_X5_cancel 30 rfl) hz8 ?_
        obtain ⟨v9, ev9, hF⟩ := bd_ hF
        refine kNmL ev9 ?_
        refine kPut (ci := 5) (ws' := [(a_z, .inr (5, [.ref a_z_ways, .long v7, .long v9]))]) C in_X5 tyX5 tyX5_ok nmX5 hw 0 rfl rfl 2 (by decide) (C.2.2.2.2.2.2.1 _ q1_234) rfl rfl rfl rfl (Nat.le_of_ble_eq_true rfl) rfl (dq dt_X5_cancel 31 rfl) (fun H locs hw => ?_)
        cases hF
        exact kRetV hQ C hw (dq dt_X5_cancel 32 rfl)
