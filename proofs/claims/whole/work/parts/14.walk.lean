def F_X1_lastBreakHour (t_seeps : Int32) (f_breakHour : Nat → Int32) (p1 : Int32) : Option (Int32) :=
  zl2 (fun x1 x2 ag3 => if t_seeps ≤ x2 then (some x1) else (zc1 (F_X8_hasBit p1 x2) (fun v5 => if v5 = 0 then (bd (x2 + (1 : Int32)) (fun v8 => ag3 x1 v8)) else (rd 6 f_breakHour x2 (fun v9 => bd (if x1 < v9 then v9 else x1) (fun v11 => bd (x2 + (1 : Int32)) (fun v12 => ag3 v11 v12))))))) FU (0 : Int32) (0 : Int32)
abbrev rm_X1_lastBreakHour : Room := { frames := 1, cells := 0, slots := 0, locals := 40 }
theorem kd_X1_lastBreakHour : yX1_lastBreakHour.cls = RX1 ∧ yX1_lastBreakHour.cls ≠ "java/lang/invoke/MethodHandle" ∧ yX1_lastBreakHour.cls ≠ "java/lang/invoke/VarHandle" ∧ (parseMethodDescriptor yX1_lastBreakHour.desc).map (fun d => d.parameters.length) = some 1 := by decide +kernel
set_option maxRecDepth 100000 in
set_option maxHeartbeats 4000000 in
theorem A_X1_lastBreakHour (l : Launch) (D : va_G) (cB cI cJ cZ : ClassId) (ad : (Nat → Nat) × (Nat → Nat)) (a_t a_t_tides a_t_seepYard a_t_seepSize a_t_growth a_t_level a_t_kind a_t_childYard a_t_pace a_t_ear a_f a_n a_h a_f_breakHour a_f_heardInTime : Nat) (t_yards : Int32) (t_seeps : Int32) (t_children : Int32) (f_breakHour : Nat → Int32) (p1 : Int32) (r : Int32) (hF : F_X1_lastBreakHour t_seeps f_breakHour p1 = some r) : kM l yX1_lastBreakHour (Cond.code yX1_lastBreakHour cX1_lastBreakHour 4 (some .int) :: W0) rm_X1_lastBreakHour D (kT cB cI cJ cZ) ad [.ref a_f, .int p1] [(a_t, .inr (7, [.int t_yards, .ref a_t_tides, .int t_seeps, .ref a_t_seepYard, .ref a_t_seepSize, .ref a_t_growth, .ref a_t_level, .int t_children, .ref a_t_kind, .ref a_t_childYard, .ref a_t_pace, .ref a_t_ear])), (a_f, .inr (1, [.ref a_t, .ref a_n, .ref a_h, .ref a_f_breakHour, .ref a_f_heardInTime])), (a_f_breakHour, .inl (cI, 6, .inl f_breakHour))] (some (.int r)) [(a_t, .inr (7, [.int t_yards, .ref a_t_tides, .int t_seeps, .ref a_t_seepYard, .ref a_t_seepSize, .ref a_t_growth, .ref a_t_level, .int t_children, .ref a_t_kind, .ref a_t_childYard, .ref a_t_pace, .ref a_t_ear])), (a_f, .inr (1, [.ref a_t, .ref a_n, .ref a_h, .ref a_f_breakHour, .ref a_f_heardInTime])), (a_f_breakHour, .inl (cI, 6, .inl f_breakHour))] := by
  unfold F_X1_lastBreakHour at hF
  refine kStart (lv := [(0, .ref a_f), (1, .int p1)]) (own := "DikeWatch$Foretold") (plainFor_of_name (by decide)) rfl (Nat.le_of_ble_eq_true rfl) rfl ?_
  intro p e s m args below meth c A Q ls hQ C hx hb hw hl
  refine lv_iconst (v := (0 : Int32)) hx hb (dq dt_X1_lastBreakHour 0 rfl) (by decide) ?_
  refine lv_istore_n (lv' := [(2, .int (0 : Int32)), (0, .ref a_f), (1, .int p1)]) hx hb (dq dt_X1_lastBreakHour 1 rfl) rfl hl (by decide) rfl (fun ls hl => ?_)
  refine lv_iconst (v := (0 : Int32)) hx hb (dq dt_X1_lastBreakHour 2 rfl) (by decide) ?_
  refine lv_istore_n (lv' := [(3, .int (0 : Int32)), (2, .int (0 : Int32)), (0, .ref a_f), (1, .int p1)]) hx hb (dq dt_X1_lastBreakHour 3 rfl) rfl hl (by decide) rfl (fun ls hl => ?_)
  obtain ⟨K3, hK03, hK3, hF⟩ := zl2_ hF
  have L3 : ∀ (n : Nat) (x1 : Int32) (x2 : Int32), K3 n x1 x2 = some r → ∀ (H : Heap) (locs : List Loc) (ls : Array Slot), kW D A s.heap [(a_t, .inr (7, [.int t_yards, .ref a_t_tides, .int t_seeps, .ref a_t_seepYard, .ref a_t_seepSize, .ref a_t_growth, .ref a_t_level, .int t_children, .ref a_t_kind, .ref a_t_childYard, .ref a_t_pace, .ref a_t_ear])), (a_f, .inr (1, [.ref a_t, .ref a_n, .ref a_h, .ref a_f_breakHour, .ref a_f_heardInTime])), (a_f_breakHour, .inl (cI, 6, .inl f_breakHour))] H locs → lv_has ls 4 [(0, .ref a_f), (1, .int p1), (2, .int x1), (3, .int x2)] → W p l e rm_X1_lastBreakHour s m args below meth c H locs 0 0 Q (F0 m 4 ls []) := by
    intro n
    induction n with
    | zero => intro x1 x2 hF; exact (lp_no (hK03 x1 x2) hF).elim
    | succ n ih3 =>
      intro x1 x2 hF H locs ls hw hl
      replace hF := hK3 n x1 x2 hF
      refine lv_iload_n hx hb (dq dt_X1_lastBreakHour 4 rfl) rfl (lv_at hl 3 rfl) ?_
      refine lv_aload_n hx hb (dq dt_X1_lastBreakHour 5 rfl) rfl (lv_at hl 0 rfl) ?_
      refine kGet (ci := 1) C in_X1 hw 1 rfl rfl 0 (by decide) (C.2.2.2.2.2.2.1 _ q1_154) rfl rfl (dq dt_X1_lastBreakHour 6 rfl) ?_
      refine kGet (ci := 7) C in_X7 hw 0 rfl rfl 2 (by decide) (C.2.2.2.2.2.2.1 _ q1_58) rfl rfl (dq dt_X1_lastBreakHour 7 rfl) ?_
      refine lv_icmp_ge (tgt := 44) hx hb (dq dt_X1_lastBreakHour 8 rfl) (by decide) (fun c4 => ?_) (fun c4 => ?_)
      · replace hF := if_t c4 hF
        refine lv_iload_n hx hb (dq dt_X1_lastBreakHour 24 rfl) rfl (lv_at hl 2 rfl) ?_
        cases hF
        exact kRetI hQ C hw (dq dt_X1_lastBreakHour 25 rfl)
      · replace hF := if_f c4 hF
        refine lv_iload_n hx hb (dq dt_X1_lastBreakHour 9 rfl) rfl (lv_at hl 1 rfl) ?_
        refine lv_iload_n hx hb (dq dt_X1_lastBreakHour 10 rfl) rfl (lv_at hl 3 rfl) ?_
        obtain ⟨v5, hr6, hF⟩ := zc1_ hF
        refine kCallSN C hw (A_X8_hasBit l D cB cI cJ cZ ad p1 x2 v5 hr6) ⟨va_cnB 2 C.2.2.2.2.2.2.1 (w0_all0 q3_18) rfl rfl rfl (C.2.2.2.2.2.2.2.2.1.1 _ (List.mem_of_getElem? (i := 9) rfl)) (C.2.2.2.2.2.2.1 _ q1_1) ke_X8_hasBit ⟨Nat.le_of_ble_eq_true rfl, Nat.le_of_ble_eq_true rfl⟩, (C.2.2.2.2.2.2.1 _ q3_17), trivial⟩ hl.1 rfl rfl rfl (Nat.le_of_ble_eq_true rfl) ⟨Nat.le_of_ble_eq_true rfl, Nat.le_of_ble_eq_true rfl⟩ (dq dt_X1_lastBreakHour 11 rfl) (fun H locs hw => ?_)
        refine lv_if_eq (tgt := 36) hx hb (dq dt_X1_lastBreakHour 12 rfl) (by decide) (fun c7 => ?_) (fun c7 => ?_)
        · replace hF := if_t c7 hF
          refine lv_iload_n hx hb (dq dt_X1_lastBreakHour 20 rfl) rfl (lv_at hl 2 rfl) ?_
          refine lv_istore_n (lv' := [(2, .int x1), (0, .ref a_f), (1, .int p1), (3, .int x2)]) hx hb (dq dt_X1_lastBreakHour 21 rfl) rfl hl (by decide) rfl (fun ls hl => ?_)
          obtain ⟨v8, ev8, hF⟩ := bd_ hF
          refine lv_iinc (v := v8) (lv' := [(3, .int v8), (2, .int x1), (0, .ref a_f), (1, .int p1)]) hx hb (dq dt_X1_lastBreakHour 22 rfl) hl (k := 3) rfl ev8.symm (by decide) rfl (fun ls hl => ?_)
          refine lv_goto (tgt := 4) hx hb (dq dt_X1_lastBreakHour 23 rfl) (by decide) ?_
          exact ih3 x1 v8 hF _ _ _ hw (lv_sub hl [2, 3, 1, 0] rfl)
        · replace hF := if_f c7 hF
          refine lv_iload_n hx hb (dq dt_X1_lastBreakHour 13 rfl) rfl (lv_at hl 2 rfl) ?_
          refine lv_aload_n hx hb (dq dt_X1_lastBreakHour 14 rfl) rfl (lv_at hl 0 rfl) ?_
          refine kGet (ci := 1) C in_X1 hw 1 rfl rfl 3 (by decide) (C.2.2.2.2.2.2.1 _ q1_157) rfl rfl (dq dt_X1_lastBreakHour 15 rfl) ?_
          refine lv_iload_n hx hb (dq dt_X1_lastBreakHour 16 rfl) rfl (lv_at hl 3 rfl) ?_
          obtain ⟨v9, ev9, hi10, hF⟩ := rd_ hF
          refine kIald C hw 2 1 rfl rfl hi10 ev9 (dq dt_X1_lastBreakHour 17 rfl) ?_
          refine va_mmax hx hb (C.2.2.1.trans hl.1.symm) C.2.2.2.2.2.1 (C.2.2.2.2.2.2.1 _ q3_189) (C.2.2.2.2.2.2.1 _ q3_32) (C.2.2.2.2.2.2.1 _ q1_17) (C.2.2.2.2.2.2.1 _ q3_33) (Nat.le_of_ble_eq_true rfl) (Nat.le_of_ble_eq_true rfl) (Nat.le_of_ble_eq_true rfl) (Nat.le_of_ble_eq_true rfl) (dq dt_X1_lastBreakHour 18 rfl) ?_
          obtain ⟨v11, ev11, hF⟩ := bd_ hF
          refine kNmI ev11 ?_
          refine lv_goto (tgt := 37) hx hb (dq dt_X1_lastBreakHour 19 rfl) (by decide) ?_
          refine lv_istore_n (lv' := [(2, .int v11), (0, .ref a_f), (1, .int p1), (3, .int x2)]) hx hb (dq dt_X1_lastBreakHour 21 rfl) rfl hl (by decide) rfl (fun ls hl => ?_)
          obtain ⟨v12, ev12, hF⟩ := bd_ hF
          refine lv_iinc (v := v12) (lv' := [(3, .int v12), (2, .int v11), (0, .ref a_f), (1, .int p1)]) hx hb (dq dt_X1_lastBreakHour 22 rfl) hl (k := 3) rfl ev12.symm (by decide) rfl (fun ls hl => ?_)
          refine lv_goto (tgt := 4) hx hb (dq dt_X1_lastBreakHour 23 rfl) (by decide) ?_
          exact ih3 v11 v12 hF _ _ _ hw (lv_sub hl [2, 3, 1, 0] rfl)
  exact L3 _ (0 : Int32) (0 : Int32) hF _ _ _ hw (lv_sub hl [2, 3, 1, 0] rfl)
def F_X1_unbrokenIn (t_seeps : Int32) (f_breakHour : Nat → Int32) (p1 : Int32) (p2 : Int32) : Option (Int32) :=
  zl2 (fun x1 x2 ag3 => if t_seeps ≤ x2 then (some x1) else (zc1 (F_X8_hasBit p2 x2) (fun v5 => zj1 (fun y7 => bd (x1 ||| y7) (fun v9 => bd (x2 + (1 : Int32)) (fun v10 => ag3 v9 v10))) (fun K8 => if v5 = 0 then (K8 (0 : Int32)) else (rd 6 f_breakHour x2 (fun v12 => if v12 ≤ p1 then (K8 (0 : Int32)) else (K8 ((1 : Int32) <<< (x2 &&& 31))))))))) FU (0 : Int32) (0 : Int32)
abbrev rm_X1_unbrokenIn : Room := { frames := 1, cells := 0, slots := 0, locals := 21 }
theorem kd_X1_unbrokenIn : yX1_unbrokenIn.cls = RX1 ∧ yX1_unbrokenIn.cls ≠ "java/lang/invoke/MethodHandle" ∧ yX1_unbrokenIn.cls ≠ "java/lang/invoke/VarHandle" ∧ (parseMethodDescriptor yX1_unbrokenIn.desc).map (fun d => d.parameters.length) = some 2 := by decide +kernel
set_option maxRecDepth 100000 in
set_option maxHeartbeats 4000000 in
theorem A_X1_unbrokenIn (l : Launch) (D : va_G) (cB cI cJ cZ : ClassId) (ad : (Nat → Nat) × (Nat → Nat)) (a_t a_t_tides a_t_seepYard a_t_seepSize a_t_growth a_t_level a_t_kind a_t_childYard a_t_pace a_t_ear a_f a_n a_h a_f_breakHour a_f_heardInTime : Nat) (t_yards : Int32) (t_seeps : Int32) (t_children : Int32) (f_breakHour : Nat → Int32) (p1 : Int32) (p2 : Int32) (r : Int32) (hF : F_X1_unbrokenIn t_seeps f_breakHour p1 p2 = some r) : kM l yX1_unbrokenIn (Cond.code yX1_unbrokenIn cX1_unbrokenIn 5 (some .int) :: W0) rm_X1_unbrokenIn D (kT cB cI cJ cZ) ad [.ref a_f, .int p1, .int p2] [(a_t, .inr (7, [.int t_yards, .ref a_t_tides, .int t_seeps, .ref a_t_seepYard, .ref a_t_seepSize, .ref a_t_growth, .ref a_t_level, .int t_children, .ref a_t_kind, .ref a_t_childYard, .ref a_t_pace, .ref a_t_ear])), (a_f, .inr (1, [.ref a_t, .ref a_n, .ref a_h, .ref a_f_breakHour, .ref a_f_heardInTime])), (a_f_breakHour, .inl (cI, 6, .inl f_breakHour))] (some (.int r)) [(a_t, .inr (7, [.int t_yards, .ref a_t_tides, .int t_seeps, .ref a_t_seepYard, .ref a_t_seepSize, .ref a_t_growth, .ref a_t_level, .int t_children, .ref a_t_kind, .ref a_t_childYard, .ref a_t_pace, .ref a_t_ear])), (a_f, .inr (1, [.ref a_t, .ref a_n, .ref a_h, .ref a_f_breakHour, .ref a_f_heardInTime])), (a_f_breakHour, .inl (cI, 6, .inl f_breakHour))] := by
  unfold F_X1_unbrokenIn at hF
  refine kStart (lv := [(0, .ref a_f), (1, .int p1), (2, .int p2)]) (own := "DikeWatch$Foretold") (plainFor_of_name (by decide)) rfl (Nat.le_of_ble_eq_true rfl) rfl ?_
  intro p e s m args below meth c A Q ls hQ C hx hb hw hl
  refine lv_iconst (v := (0 : Int32)) hx hb (dq dt_X1_unbrokenIn 0 rfl) (by decide) ?_
  refine lv_istore_n (lv' := [(3, .int (0 : Int32)), (0, .ref a_f), (1, .int p1), (2, .int p2)]) hx hb (dq dt_X1_unbrokenIn 1 rfl) rfl hl (by decide) rfl (fun ls hl => ?_)
  refine lv_iconst (v := (0 : Int32)) hx hb (dq dt_X1_unbrokenIn 2 rfl) (by decide) ?_
  refine lv_istore (lv' := [(4, .int (0 : Int32)), (3, .int (0 : Int32)), (0, .ref a_f), (1, .int p1), (2, .int p2)]) hx hb (dq dt_X1_unbrokenIn 3 rfl) hl (by decide) rfl (fun ls hl => ?_)
  obtain ⟨K3, hK03, hK3, hF⟩ := zl2_ hF
  have L3 : ∀ (n : Nat) (x1 : Int32) (x2 : Int32), K3 n x1 x2 = some r → ∀ (H : Heap) (locs : List Loc) (ls : Array Slot), kW D A s.heap [(a_t, .inr (7, [.int t_yards, .ref a_t_tides, .int t_seeps, .ref a_t_seepYard, .ref a_t_seepSize, .ref a_t_growth, .ref a_t_level, .int t_children, .ref a_t_kind, .ref a_t_childYard, .ref a_t_pace, .ref a_t_ear])), (a_f, .inr (1, [.ref a_t, .ref a_n, .ref a_h, .ref a_f_breakHour, .ref a_f_heardInTime])), (a_f_breakHour, .inl (cI, 6, .inl f_breakHour))] H locs → lv_has ls 5 [(0, .ref a_f), (1, .int p1), (2, .int p2), (3, .int x1), (4, .int x2)] → W p l e rm_X1_unbrokenIn s m args below meth c H locs 0 0 Q (F0 m 5 ls []) := by
    intro n
    induction n with
    | zero => intro x1 x2 hF; exact (lp_no (hK03 x1 x2) hF).elim
    | succ n ih3 =>
      intro x1 x2 hF H locs ls hw hl
      replace hF := hK3 n x1 x2 hF
      refine lv_iload hx hb (dq dt_X1_unbrokenIn 4 rfl) (lv_at hl 4 rfl) ?_
      refine lv_aload_n hx hb (dq dt_X1_unbrokenIn 5 rfl) rfl (lv_at hl 0 rfl) ?_
      refine kGet (ci := 1) C in_X1 hw 1 rfl rfl 0 (by decide) (C.2.2.2.2.2.2.1 _ q1_154) rfl rfl (dq dt_X1_unbrokenIn 6 rfl) ?_
      refine kGet (ci := 7) C in_X7 hw 0 rfl rfl 2 (by decide) (C.2.2.2.2.2.2.1 _ q1_58) rfl rfl (dq dt_X1_unbrokenIn 7 rfl) ?_
      refine lv_icmp_ge (tgt := 54) hx hb (dq dt_X1_unbrokenIn 8 rfl) (by decide) (fun c4 => ?_) (fun c4 => ?_)
      · replace hF := if_t c4 hF
        refine lv_iload_n hx hb (dq dt_X1_unbrokenIn 29 rfl) rfl (lv_at hl 3 rfl) ?_
        cases hF
        exact kRetI hQ C hw (dq dt_X1_unbrokenIn 30 rfl)
      · replace hF := if_f c4 hF
        refine lv_iload_n hx hb (dq dt_X1_unbrokenIn 9 rfl) rfl (lv_at hl 3 rfl) ?_
        refine lv_iload_n hx hb (dq dt_X1_unbrokenIn 10 rfl) rfl (lv_at hl 2 rfl) ?_
        refine lv_iload hx hb (dq dt_X1_unbrokenIn 11 rfl) (lv_at hl 4 rfl) ?_
        obtain ⟨v5, hr6, hF⟩ := zc1_ hF
        refine kCallSN C hw (A_X8_hasBit l D cB cI cJ cZ ad p2 x2 v5 hr6) ⟨va_cnB 2 C.2.2.2.2.2.2.1 (w0_all0 q3_18) rfl rfl rfl (C.2.2.2.2.2.2.2.2.1.1 _ (List.mem_of_getElem? (i := 9) rfl)) (C.2.2.2.2.2.2.1 _ q1_1) ke_X8_hasBit ⟨Nat.le_of_ble_eq_true rfl, Nat.le_of_ble_eq_true rfl⟩, (C.2.2.2.2.2.2.1 _ q3_17), trivial⟩ hl.1 rfl rfl rfl (Nat.le_of_ble_eq_true rfl) ⟨Nat.le_of_ble_eq_true rfl, Nat.le_of_ble_eq_true rfl⟩ (dq dt_X1_unbrokenIn 12 rfl) (fun H locs hw => ?_)
        obtain ⟨K8, hK8, hF⟩ := zj1_ hF
        have J8 : ∀ (y7 : Int32), K8 y7 = some r → ∀ (H : Heap) (locs : List Loc) (ls : Array Slot), kW D A s.heap [(a_t, .inr (7, [.int t_yards, .ref a_t_tides, .int t_seeps, .ref a_t_seepYard, .ref a_t_seepSize, .ref a_t_growth, .ref a_t_level, .int t_children, .ref a_t_kind, .ref a_t_childYard, .ref a_t_pace, .ref a_t_ear])), (a_f, .inr (1, [.ref a_t, .ref a_n, .ref a_h, .ref a_f_breakHour, .ref a_f_heardInTime])), (a_f_breakHour, .inl (cI, 6, .inl f_breakHour))] H locs → lv_has ls 5 [(0, .ref a_f), (1, .int p1), (2, .int p2), (4, .int x2)] → W p l e rm_X1_unbrokenIn s m args below meth c H locs 0 0 Q (F0 m 46 ls [.int y7, .int x1]) := by
          intro y7 hF H locs ls hw hl
          replace hF := hK8 y7 hF
          refine lv_ior hx hb (dq dt_X1_unbrokenIn 25 rfl) ?_
          obtain ⟨v9, ev9, hF⟩ := bd_ hF
          refine kNmI ev9 ?_
          refine lv_istore_n (lv' := [(3, .int v9), (0, .ref a_f), (1, .int p1), (2, .int p2), (4, .int x2)]) hx hb (dq dt_X1_unbrokenIn 26 rfl) rfl hl (by decide) rfl (fun ls hl => ?_)
          obtain ⟨v10, ev10, hF⟩ := bd_ hF
          refine lv_iinc (v := v10) (lv' := [(4, .int v10), (3, .int v9), (0, .ref a_f), (1, .int p1), (2, .int p2)]) hx hb (dq dt_X1_unbrokenIn 27 rfl) hl (k := 4) rfl ev10.symm (by decide) rfl (fun ls hl => ?_)
          refine lv_goto (tgt := 5) hx hb (dq dt_X1_unbrokenIn 28 rfl) (by decide) ?_
          exact ih3 v9 v10 hF _ _ _ hw (lv_sub hl [2, 3, 4, 1, 0] rfl)
        refine lv_if_eq (tgt := 45) hx hb (dq dt_X1_unbrokenIn 13 rfl) (by decide) (fun c11 => ?_) (fun c11 => ?_)
        · replace hF := if_t c11 hF
          refine lv_iconst (v := (0 : Int32)) hx hb (dq dt_X1_unbrokenIn 24 rfl) (by decide) ?_
          exact J8 (0 : Int32) hF _ _ _ hw (lv_sub hl [0, 1, 2, 4] rfl)
        · replace hF := if_f c11 hF
          refine lv_iload_n hx hb (dq dt_X1_unbrokenIn 14 rfl) rfl (lv_at hl 1 rfl) ?_
          refine lv_aload_n hx hb (dq dt_X1_unbrokenIn 15 rfl) rfl (lv_at hl 0 rfl) ?_
          refine kGet (ci := 1) C in_X1 hw 1 rfl rfl 3 (by decide) (C.2.2.2.2.2.2.1 _ q1_157) rfl rfl (dq dt_X1_unbrokenIn 16 rfl) ?_
          refine lv_iload hx hb (dq dt_X1_unbrokenIn 17 rfl) (lv_at hl 4 rfl) ?_
          obtain ⟨v12, ev12, hi13, hF⟩ := rd_ hF
          refine kIald C hw 2 1 rfl rfl hi13 ev12 (dq dt_X1_unbrokenIn 18 rfl) ?_
          refine lv_icmp_ge (tgt := 45) hx hb (dq dt_X1_unbrokenIn 19 rfl) (by decide) (fun c14 => ?_) (fun c14 => ?_)
          · replace hF := if_t c14 hF
            refine lv_iconst (v := (0 : Int32)) hx hb (dq dt_X1_unbrokenIn 24 rfl) (by decide) ?_
            exact J8 (0 : Int32) hF _ _ _ hw (lv_sub hl [0, 1, 2, 4] rfl)
          · replace hF := if_f c14 hF
            refine lv_iconst (v := (1 : Int32)) hx hb (dq dt_X1_unbrokenIn 20 rfl) (by decide) ?_
            refine lv_iload hx hb (dq dt_X1_unbrokenIn 21 rfl) (lv_at hl 4 rfl) ?_
            refine lv_ishl hx hb (dq dt_X1_unbrokenIn 22 rfl) ?_
            refine lv_goto (tgt := 46) hx hb (dq dt_X1_unbrokenIn 23 rfl) (by decide) ?_
            exact J8 ((1 : Int32) <<< (x2 &&& 31)) hF _ _ _ hw (lv_sub hl [0, 1, 2, 4] rfl)
  exact L3 _ (0 : Int32) (0 : Int32) hF _ _ _ hw (lv_sub hl [2, 3, 4, 1, 0] rfl)
def F_X1_findHeardInTime (t_yards : Int32) (t_seeps : Int32) (t_seepYard : Nat → Int32) (t_kind : Nat → Int32) (t_pace : Nat → Int32) (t_ear : Nat → Int32) (n_hours : Int32) (n_filled : Int32) (n_toLesser : Int32) (n_size : Nat → Int32) (n_yard : Nat → Int32) (n_oranges : Nat → Int32) (h_hours : Int32) (h_filled : Int32) (h_toLesser : Int32) (h_size : Nat → Int32) (h_yard : Nat → Int32) (h_oranges : Nat → Int32) (f_breakHour : Nat → Int32) (p1 : Int32) (p2 : Int32) : Option (Int32 × Int32 × Int32 × Int32 × (Nat → Int32) × (Nat → Int32) × (Nat → Int32)) :=
  bd ((2 : Int32) * (t_yards - (1 : Int32))) (fun v1 => zc1 (F_X1_lastBreakHour t_seeps f_breakHour p2) (fun v2 => bd (if v2 < v1 then v2 else v1) (fun v4 => zc6 (F_X3_copyFrom h_hours h_filled h_toLesser h_size h_yard h_oranges n_hours n_filled n_toLesser n_size n_yard n_oranges) (fun g5 g6 g7 g8 g9 g10 => zl5 (fun x12 x13 h14 h15 h16 ag17 => if v4 ≤ x13 then (some (x12, h14, g6, h15, g8, h16, g10)) else (if x12 = p2 then (some (x12, h14, g6, h15, g8, h16, g10)) else (zc1 (F_X3_heardBy t_seeps t_seepYard t_kind t_ear h14 g6 h16 p1) (fun v20 => zc1 (F_X1_unbrokenIn t_seeps f_breakHour x13 p2) (fun v22 => bd (x12 ||| (v20 &&& v22)) (fun v24 => zc2 (F_X3_walk t_yards t_pace h15 h16 p1) (fun g25 g26 => bd (h14 + (1 : Int32)) (fun v28 => bd (x13 + (1 : Int32)) (fun v29 => ag17 v24 v29 v28 g25 g26))))))))) FU (0 : Int32) (0 : Int32) g5 g7 g9))))
abbrev rm_X1_findHeardInTime : Room := { frames := 4, cells := 0, slots := 0, locals := 108 }
theorem kd_X1_findHeardInTime : yX1_findHeardInTime.cls = RX1 ∧ yX1_findHeardInTime.cls ≠ "java/lang/invoke/MethodHandle" ∧ yX1_findHeardInTime.cls ≠ "java/lang/invoke/VarHandle" ∧ (parseMethodDescriptor yX1_findHeardInTime.desc).map (fun d => d.parameters.length) = some 2 := by decide +kernel
set_option maxRecDepth 100000 in
set_option maxHeartbeats 4000000 in
theorem A_X1_findHeardInTime (l : Launch) (D : va_G) (cB cI cJ cZ : ClassId) (ad : (Nat → Nat) × (Nat → Nat)) (a_t a_t_tides a_t_seepYard a_t_seepSize a_t_growth a_t_level a_t_kind a_t_childYard a_t_pace a_t_ear a_n a_n_size a_n_yard a_n_oranges a_h a_h_size a_h_yard a_h_oranges a_f a_f_breakHour a_f_heardInTime : Nat) (t_yards : Int32) (t_seeps : Int32) (t_children : Int32) (t_seepYard : Nat → Int32) (t_kind : Nat → Int32) (t_pace : Nat → Int32) (t_ear : Nat → Int32) (n_hours : Int32) (n_filled : Int32) (n_toLesser : Int32) (n_size : Nat → Int32) (n_yard : Nat → Int32) (n_oranges : Nat → Int32) (h_hours : Int32) (h_filled : Int32) (h_toLesser : Int32) (h_size : Nat → Int32) (h_yard : Nat → Int32) (h_oranges : Nat → Int32) (f_breakHour : Nat → Int32) (p1 : Int32) (p2 : Int32) (r : Int32) (h_hours' : Int32) (h_filled' : Int32) (h_toLesser' : Int32) (h_size' : Nat → Int32) (h_yard' : Nat → Int32) (h_oranges' : Nat → Int32) (hF : F_X1_findHeardInTime t_yards t_seeps t_seepYard t_kind t_pace t_ear n_hours n_filled n_toLesser n_size n_yard n_oranges h_hours h_filled h_toLesser h_size h_yard h_oranges f_breakHour p1 p2 = some (r, h_hours', h_filled', h_toLesser', h_size', h_yard', h_oranges')) : kM l yX1_findHeardInTime (Cond.code yX1_findHeardInTime cX1_findHeardInTime 7 (some .int) :: W0) rm_X1_findHeardInTime D (kT cB cI cJ cZ) ad [.ref a_f, .int p1, .int p2] [(a_t, .inr (7, [.int t_yards, .ref a_t_tides, .int t_seeps, .ref a_t_seepYard, .ref a_t_seepSize, .ref a_t_growth, .ref a_t_level, .int t_children, .ref a_t_kind, .ref a_t_childYard, .ref a_t_pace, .ref a_t_ear])), (a_t_seepYard, .inl (cI, 6, .inl t_seepYard)), (a_t_kind, .inl (cI, 5, .inl t_kind)), (a_t_pace, .inl (cI, 5, .inl t_pace)), (a_t_ear, .inl (cI, 5, .inl t_ear)), (a_n, .inr (3, [.ref a_t, .int n_hours, .int n_filled, .ref a_n_size, .ref a_n_yard, .int n_toLesser, .ref a_n_oranges])), (a_n_size, .inl (cI, 6, .inl n_size)), (a_n_yard, .inl (cI, 5, .inl n_yard)), (a_n_oranges, .inl (cI, 5, .inl n_oranges)), (a_h, .inr (3, [.ref a_t, .int h_hours, .int h_filled, .ref a_h_size, .ref a_h_yard, .int h_toLesser, .ref a_h_oranges])), (a_h_size, .inl (cI, 6, .inl h_size)), (a_h_yard, .inl (cI, 5, .inl h_yard)), (a_h_oranges, .inl (cI, 5, .inl h_oranges)), (a_f, .inr (1, [.ref a_t, .ref a_n, .ref a_h, .ref a_f_breakHour, .ref a_f_heardInTime])), (a_f_breakHour, .inl (cI, 6, .inl f_breakHour))] (some (.int r)) [(a_t, .inr (7, [.int t_yards, .ref a_t_tides, .int t_seeps, .ref a_t_seepYard, .ref a_t_seepSize, .ref a_t_growth, .ref a_t_level, .int t_children, .ref a_t_kind, .ref a_t_childYard, .ref a_t_pace, .ref a_t_ear])), (a_t_seepYard, .inl (cI, 6, .inl t_seepYard)), (a_t_kind, .inl (cI, 5, .inl t_kind)), (a_t_pace, .inl (cI, 5, .inl t_pace)), (a_t_ear, .inl (cI, 5, .inl t_ear)), (a_n, .inr (3, [.ref a_t, .int n_hours, .int n_filled, .ref a_n_size, .ref a_n_yard, .int n_toLesser, .ref a_n_oranges])), (a_n_size, .inl (cI, 6, .inl n_size)), (a_n_yard, .inl (cI, 5, .inl n_yard)), (a_n_oranges, .inl (cI, 5, .inl n_oranges)), (a_h, .inr (3, [.ref a_t, .int (h_hours'), .int (h_filled'), .ref a_h_size, .ref a_h_yard, .int (h_toLesser'), .ref a_h_oranges])), (a_h_size, .inl (cI, 6, .inl (h_size'))), (a_h_yard, .inl (cI, 5, .inl (h_yard'))), (a_h_oranges, .inl (cI, 5, .inl (h_oranges'))), (a_f, .inr (1, [.ref a_t, .ref a_n, .ref a_h, .ref a_f_breakHour, .ref a_f_heardInTime])), (a_f_breakHour, .inl (cI, 6, .inl f_breakHour))] := by
  unfold F_X1_findHeardInTime at hF
  refine kStart (lv := [(0, .ref a_f), (1, .int p1), (2, .int p2)]) (own := "DikeWatch$Foretold") (plainFor_of_name (by decide)) rfl (Nat.le_of_ble_eq_true rfl) rfl ?_
  intro p e s m args below meth c A Q ls hQ C hx hb hw hl
  refine lv_iconst (v := (2 : Int32)) hx hb (dq dt_X1_findHeardInTime 0 rfl) (by decide) ?_
  refine lv_aload_n hx hb (dq dt_X1_findHeardInTime 1 rfl) rfl (lv_at hl 0 rfl) ?_
  refine kGet (ci := 1) C in_X1 hw 13 rfl rfl 0 (by decide) (C.2.2.2.2.2.2.1 _ q1_154) rfl rfl (dq dt_X1_findHeardInTime 2 rfl) ?_
  refine kGet (ci := 7) C in_X7 hw 0 rfl rfl 0 (by decide) (C.2.2.2.2.2.2.1 _ q1_51) rfl rfl (dq dt_X1_findHeardInTime 3 rfl) ?_
  refine lv_iconst (v := (1 : Int32)) hx hb (dq dt_X1_findHeardInTime 4 rfl) (by decide) ?_
  refine lv_isub hx hb (dq dt_X1_findHeardInTime 5 rfl) ?_
  refine lv_imul hx hb (dq dt_X1_findHeardInTime 6 rfl) ?_
  obtain ⟨v1, ev1, hF⟩ := bd_ hF
  refine kNmI ev1 ?_
  refine lv_istore_n (lv' := [(3, .int v1), (0, .ref a_f), (1, .int p1), (2, .int p2)]) hx hb (dq dt_X1_findHeardInTime 7 rfl) rfl hl (by decide) rfl (fun ls hl => ?_)
  refine lv_iload_n hx hb (dq dt_X1_findHeardInTime 8 rfl) rfl (lv_at hl 0 rfl) ?_
  refine lv_aload_n hx hb (dq dt_X1_findHeardInTime 9 rfl) rfl (lv_at hl 1 rfl) ?_
  refine lv_iload_n hx hb (dq dt_X1_findHeardInTime 10 rfl) rfl (lv_at hl 3 rfl) ?_
  obtain ⟨v2, hr3, hF⟩ := zc1_ hF
  refine kCallVR C hw (A_X1_lastBreakHour l D cB cI cJ cZ ad a_t a_t_tides a_t_seepYard a_t_seepSize a_t_growth a_t_level a_t_kind a_t_childYard a_t_pace a_t_ear a_f a_n a_h a_f_breakHour a_f_heardInTime t_yards t_seeps t_children f_breakHour p2 v2 hr3) (cwV 1 C.2.2.2.2.2.2.1 (w0_V0 q3_188 q3_185 q3_187 (ws0 13 rfl) q1_5) rfl rfl rfl kd_X1_lastBreakHour ⟨Nat.le_of_ble_eq_true rfl, Nat.le_of_ble_eq_true rfl⟩) [0, 13, 14] rfl rfl 13 1 rfl rfl hl.1 rfl rfl rfl (Nat.le_of_ble_eq_true rfl) ⟨Nat.le_of_ble_eq_true rfl, Nat.le_of_ble_eq_true rfl⟩ (dq dt_X1_findHeardInTime 11 rfl) (fun H locs hw => ?_)
  refine va_mmin hx hb (C.2.2.1.trans hl.1.symm) C.2.2.2.2.2.1 (C.2.2.2.2.2.2.1 _ q3_190) (C.2.2.2.2.2.2.1 _ q3_91) (C.2.2.2.2.2.2.1 _ q1_17) (C.2.2.2.2.2.2.1 _ q3_92) (Nat.le_of_ble_eq_true rfl) (Nat.le_of_ble_eq_true rfl) (Nat.le_of_ble_eq_true rfl) (Nat.le_of_ble_eq_true rfl) (dq dt_X1_findHeardInTime 12 rfl) ?_
  obtain ⟨v4, ev4, hF⟩ := bd_ hF
  refine kNmI ev4 ?_
  refine lv_istore (lv' := [(4, .int v4), (3, .int v1), (0, .ref a_f), (1, .int p1), (2, .int p2)]) hx hb (dq dt_X1_findHeardInTime 13 rfl) hl (by decide) rfl (fun ls hl => ?_)
  refine lv_iconst (v := (0 : Int32)) hx hb (dq dt_X1_findHeardInTime 14 rfl) (by decide) ?_
  refine lv_istore (lv' := [(5, .int (0 : Int32)), (4, .int v4), (3, .int v1), (0, .ref a_f), (1, .int p1), (2, .int p2)]) hx hb (dq dt_X1_findHeardInTime 15 rfl) hl (by decide) rfl (fun ls hl => ?_)
  refine lv_aload_n hx hb (dq dt_X1_findHeardInTime 16 rfl) rfl (lv_at hl 3 rfl) ?_
  refine kGet (ci := 1) C in_X1 hw 13 rfl rfl 2 (by decide) (C.2.2.2.2.2.2.1 _ q1_156) rfl rfl (dq dt_X1_findHeardInTime 17 rfl) ?_
  refine lv_aload_n hx hb (dq dt_X1_findHeardInTime 18 rfl) rfl (lv_at hl 3 rfl) ?_
  refine kGet (ci := 1) C in_X1 hw 13 rfl rfl 1 (by decide) (C.2.2.2.2.2.2.1 _ q1_155) rfl rfl (dq dt_X1_findHeardInTime 19 rfl) ?_
  obtain ⟨g5, g6, g7, g8, g9, g10, hr11, hF⟩ := zc6_ hF
  refine kCallV (ws2 := [(a_t, .inr (7, [.int t_yards, .ref a_t_tides, .int t_seeps, .ref a_t_seepYard, .ref a_t_seepSize, .ref a_t_growth, .ref a_t_level, .int t_children, .ref a_t_kind, .ref a_t_childYard, .ref a_t_pace, .ref a_t_ear])), (a_t_seepYard, .inl (cI, 6, .inl t_seepYard)), (a_t_kind, .inl (cI, 5, .inl t_kind)), (a_t_pace, .inl (cI, 5, .inl t_pace)), (a_t_ear, .inl (cI, 5, .inl t_ear)), (a_n, .inr (3, [.ref a_t, .int n_hours, .int n_filled, .ref a_n_size, .ref a_n_yard, .int n_toLesser, .ref a_n_oranges])), (a_n_size, .inl (cI, 6, .inl n_size)), (a_n_yard, .inl (cI, 5, .inl n_yard)), (a_n_oranges, .inl (cI, 5, .inl n_oranges)), (a_h, .inr (3, [.ref a_t, .int g5, .int g6, .ref a_h_size, .ref a_h_yard, .int g7, .ref a_h_oranges])), (a_h_size, .inl (cI, 6, .inl g8)), (a_h_yard, .inl (cI, 5, .inl g9)), (a_h_oranges, .inl (cI, 5, .inl g10)), (a_f, .inr (1, [.ref a_t, .ref a_n, .ref a_h, .ref a_f_breakHour, .ref a_f_heardInTime])), (a_f_breakHour, .inl (cI, 6, .inl f_breakHour))]) C hw (A_X3_copyFrom l D cB cI cJ cZ ad a_h a_t a_h_size a_h_yard a_h_oranges a_n a_n_size a_n_yard a_n_oranges h_hours h_filled h_toLesser h_size h_yard h_oranges n_hours n_filled n_toLesser n_size n_yard n_oranges g5 g6 g7 g8 g9 g10 hr11) (cwV 1 C.2.2.2.2.2.2.1 (w0_V0 q3_134 q3_148 q3_132 q3_133 q1_4) rfl rfl rfl kd_X3_copyFrom ⟨Nat.le_of_ble_eq_true rfl, Nat.le_of_ble_eq_true rfl⟩) [9, 10, 11, 12, 5, 6, 7, 8] rfl rfl rfl rfl 9 3 rfl rfl hl.1 rfl rfl rfl (Nat.le_of_ble_eq_true rfl) ⟨Nat.le_of_ble_eq_true rfl, Nat.le_of_ble_eq_true rfl⟩ (dq dt_X1_findHeardInTime 20 rfl) (fun H locs hw => ?_)
  refine lv_iconst (v := (0 : Int32)) hx hb (dq dt_X1_findHeardInTime 21 rfl) (by decide) ?_
  refine lv_istore (lv' := [(6, .int (0 : Int32)), (5, .int (0 : Int32)), (4, .int v4), (3, .int v1), (0, .ref a_f), (1, .int p1), (2, .int p2)]) hx hb (dq dt_X1_findHeardInTime 22 rfl) hl (by decide) rfl (fun ls hl => ?_)
  obtain ⟨K17, hK017, hK17, hF⟩ := zl5_ hF
  have L17 : ∀ (n : Nat) (x12 : Int32) (x13 : Int32) (h14 : Int32) (h15 : Int32) (h16 : Nat → Int32), K17 n x12 x13 h14 h15 h16 = some (r, h_hours', h_filled', h_toLesser', h_size', h_yard', h_oranges') → ∀ (H : Heap) (locs : List Loc) (ls : Array Slot), kW D A s.heap [(a_t, .inr (7, [.int t_yards, .ref a_t_tides, .int t_seeps, .ref a_t_seepYard, .ref a_t_seepSize, .ref a_t_growth, .ref a_t_level, .int t_children, .ref a_t_kind, .ref a_t_childYard, .ref a_t_pace, .ref a_t_ear])), (a_t_seepYard, .inl (cI, 6, .inl t_seepYard)), (a_t_kind, .inl (cI, 5, .inl t_kind)), (a_t_pace, .inl (cI, 5, .inl t_pace)), (a_t_ear, .inl (cI, 5, .inl t_ear)), (a_n, .inr (3, [.ref a_t, .int n_hours, .int n_filled, .ref a_n_size, .ref a_n_yard, .int n_toLesser, .ref a_n_oranges])), (a_n_size, .inl (cI, 6, .inl n_size)), (a_n_yard, .inl (cI, 5, .inl n_yard)), (a_n_oranges, .inl (cI, 5, .inl n_oranges)), (a_h, .inr (3, [.ref a_t, .int h14, .int g6, .ref a_h_size, .ref a_h_yard, .int h15, .ref a_h_oranges])), (a_h_size, .inl (cI, 6, .inl g8)), (a_h_yard, .inl (cI, 5, .inl h16)), (a_h_oranges, .inl (cI, 5, .inl g10)), (a_f, .inr (1, [.ref a_t, .ref a_n, .ref a_h, .ref a_f_breakHour, .ref a_f_heardInTime])), (a_f_breakHour, .inl (cI, 6, .inl f_breakHour))] H locs → lv_has ls 7 [(0, .ref a_f), (1, .int p1), (2, .int p2), (4, .int v4), (5, .int x12), (6, .int x13)] → W p l e rm_X1_findHeardInTime s m args below meth c H locs 0 0 Q (F0 m 40 ls []) := by
    intro n
    induction n with
    | zero => intro x12 x13 h14 h15 h16 hF; exact (lp_no (hK017 x12 x13 h14 h15 h16) hF).elim
    | succ n ih17 =>
      intro x12 x13 h14 h15 h16 hF H locs ls hw hl
      replace hF := hK17 n x12 x13 h14 h15 h16 hF
      refine lv_iload hx hb (dq dt_X1_findHeardInTime 23 rfl) (lv_at hl 5 rfl) ?_
      refine lv_iload hx hb (dq dt_X1_findHeardInTime 24 rfl) (lv_at hl 3 rfl) ?_
      refine lv_icmp_ge (tgt := 101) hx hb (dq dt_X1_findHeardInTime 25 rfl) (by decide) (fun c18 => ?_) (fun c18 => ?_)
      · replace hF := if_t c18 hF
        refine lv_iload hx hb (dq dt_X1_findHeardInTime 54 rfl) (lv_at hl 4 rfl) ?_
        cases hF
        exact kRetI hQ C hw (dq dt_X1_findHeardInTime 55 rfl)
      · replace hF := if_f c18 hF
        refine lv_iload hx hb (dq dt_X1_findHeardInTime 26 rfl) (lv_at hl 4 rfl) ?_
        refine lv_iload_n hx hb (dq dt_X1_findHeardInTime 27 rfl) rfl (lv_at hl 2 rfl) ?_
        refine lv_icmp_eq (tgt := 101) hx hb (dq dt_X1_findHeardInTime 28 rfl) (by decide) (fun c19 => ?_) (fun c19 => ?_)
        · replace hF := if_t c19 hF
          refine lv_iload hx hb (dq dt_X1_findHeardInTime 54 rfl) (lv_at hl 4 rfl) ?_
          cases hF
          exact kRetI hQ C hw (dq dt_X1_findHeardInTime 55 rfl)
        · replace hF := if_f c19 hF
          refine lv_iload hx hb (dq dt_X1_findHeardInTime 29 rfl) (lv_at hl 4 rfl) ?_
          refine lv_aload_n hx hb (dq dt_X1_findHeardInTime 30 rfl) rfl (lv_at hl 0 rfl) ?_
          refine kGet (ci := 1) C in_X1 hw 13 rfl rfl 2 (by decide) (C.2.2.2.2.2.2.1 _ q1_156) rfl rfl (dq dt_X1_findHeardInTime 31 rfl) ?_
          refine lv_iload_n hx hb (dq dt_X1_findHeardInTime 32 rfl) rfl (lv_at hl 1 rfl) ?_
          obtain ⟨v20, hr21, hF⟩ := zc1_ hF
          refine kCallVR C hw (A_X3_heardBy l D cB cI cJ cZ ad a_t a_t_tides a_t_seepYard a_t_seepSize a_t_growth a_t_level a_t_kind a_t_childYard a_t_pace a_t_ear a_h a_h_size a_h_yard a_h_oranges t_yards t_seeps t_children t_seepYard t_kind t_ear h14 g6 h15 h16 p1 v20 hr21) (cwV 1 C.2.2.2.2.2.2.1 (w0_V0 q3_45 q3_191 q3_43 q3_44 q1_4) rfl rfl rfl kd_X3_heardBy ⟨Nat.le_of_ble_eq_true rfl, Nat.le_of_ble_eq_true rfl⟩) [0, 1, 2, 4, 9, 11] rfl rfl 9 3 rfl rfl hl.1 rfl rfl rfl (Nat.le_of_ble_eq_true rfl) ⟨Nat.le_of_ble_eq_true rfl, Nat.le_of_ble_eq_true rfl⟩ (dq dt_X1_findHeardInTime 33 rfl) (fun H locs hw => ?_)
          refine lv_aload_n hx hb (dq dt_X1_findHeardInTime 34 rfl) rfl (lv_at hl 0 rfl) ?_
          refine lv_iload hx hb (dq dt_X1_findHeardInTime 35 rfl) (lv_at hl 5 rfl) ?_
          refine lv_iload_n hx hb (dq dt_X1_findHeardInTime 36 rfl) rfl (lv_at hl 2 rfl) ?_
          obtain ⟨v22, hr23, hF⟩ := zc1_ hF
          refine kCallVR C hw (A_X1_unbrokenIn l D cB cI cJ cZ ad a_t a_t_tides a_t_seepYard a_t_seepSize a_t_growth a_t_level a_t_kind a_t_childYard a_t_pace a_t_ear a_f a_n a_h a_f_breakHour a_f_heardInTime t_yards t_seeps t_children f_breakHour x13 p2 v22 hr23) (cwV 2 C.2.2.2.2.2.2.1 (w0_V0 q3_195 q3_192 q3_194 (ws0 14 rfl) q1_5) rfl rfl rfl kd_X1_unbrokenIn ⟨Nat.le_of_ble_eq_true rfl, Nat.le_of_ble_eq_true rfl⟩) [0, 13, 14] rfl rfl 13 1 rfl rfl hl.1 rfl rfl rfl (Nat.le_of_ble_eq_true rfl) ⟨Nat.le_of_ble_eq_true rfl, Nat.le_of_ble_eq_true rfl⟩ (dq dt_X1_findHeardInTime 37 rfl) (fun H locs hw => ?_)
          refine lv_iand hx hb (dq dt_X1_findHeardInTime 38 rfl) ?_
          refine lv_ior hx hb (dq dt_X1_findHeardInTime 39 rfl) ?_
          obtain ⟨v24, ev24, hF⟩ := bd_ hF
          refine kNmI ev24 ?_
          refine lv_istore (lv' := [(5, .int v24), (0, .ref a_f), (1, .int p1), (2, .int p2), (4, .int v4), (6, .int x13)]) hx hb (dq dt_X1_findHeardInTime 40 rfl) hl (by decide) rfl (fun ls hl => ?_)
          refine lv_aload_n hx hb (dq dt_X1_findHeardInTime 41 rfl) rfl (lv_at hl 1 rfl) ?_
          refine kGet (ci := 1) C in_X1 hw 13 rfl rfl 2 (by decide) (C.2.2.2.2.2.2.1 _ q1_156) rfl rfl (dq dt_X1_findHeardInTime 42 rfl) ?_
          refine lv_iload_n hx hb (dq dt_X1_findHeardInTime 43 rfl) rfl (lv_at hl 2 rfl) ?_
          obtain ⟨g25, g26, hr27, hF⟩ := zc2_ hF
          refine kCallV (ws2 := [(a_t, .inr (7, [.int t_yards, .ref a_t_tides, .int t_seeps, .ref a_t_seepYard, .ref a_t_seepSize, .ref a_t_growth, .ref a_t_level, .int t_children, .ref a_t_kind, .ref a_t_childYard, .ref a_t_pace, .ref a_t_ear])), (a_t_seepYard, .inl (cI, 6, .inl t_seepYard)), (a_t_kind, .inl (cI, 5, .inl t_kind)), (a_t_pace, .inl (cI, 5, .inl t_pace)), (a_t_ear, .inl (cI, 5, .inl t_ear)), (a_n, .inr (3, [.ref a_t, .int n_hours, .int n_filled, .ref a_n_size, .ref a_n_yard, .int n_toLesser, .ref a_n_oranges])), (a_n_size, .inl (cI, 6, .inl n_size)), (a_n_yard, .inl (cI, 5, .inl n_yard)), (a_n_oranges, .inl (cI, 5, .inl n_oranges)), (a_h, .inr (3, [.ref a_t, .int h14, .int g6, .ref a_h_size, .ref a_h_yard, .int g25, .ref a_h_oranges])), (a_h_size, .inl (cI, 6, .inl g8)), (a_h_yard, .inl (cI, 5, .inl g26)), (a_h_oranges, .inl (cI, 5, .inl g10)), (a_f, .inr (1, [.ref a_t, .ref a_n, .ref a_h, .ref a_f_breakHour, .ref a_f_heardInTime])), (a_f_breakHour, .inl (cI, 6, .inl f_breakHour))]) C hw (A_X3_walk l D cB cI cJ cZ ad a_t a_t_tides a_t_seepYard a_t_seepSize a_t_growth a_t_level a_t_kind a_t_childYard a_t_pace a_t_ear a_h a_h_size a_h_yard a_h_oranges t_yards t_seeps t_children t_pace h14 g6 h15 h16 p1 g25 g26 hr27) (cwV 1 C.2.2.2.2.2.2.1 (w0_V0 q3_96 q3_196 q3_94 q3_95 q1_4) rfl rfl rfl kd_X3_walk ⟨Nat.le_of_ble_eq_true rfl, Nat.le_of_ble_eq_true rfl⟩) [0, 3, 9, 11] rfl rfl rfl rfl 9 3 rfl rfl hl.1 rfl rfl rfl (Nat.le_of_ble_eq_true rfl) ⟨Nat.le_of_ble_eq_true rfl, Nat.le_of_ble_eq_true rfl⟩ (dq dt_X1_findHeardInTime 44 rfl) (fun H locs hw => ?_)
          refine lv_aload_n hx hb (dq dt_X1_findHeardInTime 45 rfl) rfl (lv_at hl 1 rfl) ?_
          refine kGet (ci := 1) C in_X1 hw 13 rfl rfl 2 (by decide) (C.2.2.2.2.2.2.1 _ q1_156) rfl rfl (dq dt_X1_findHeardInTime 46 rfl) ?_
          refine lv_dup hx hb (dq dt_X1_findHeardInTime 47 rfl) rfl ?_
          refine kGet (ci := 3) C in_X3 hw 9 rfl rfl 1 (by decide) (C.2.2.2.2.2.2.1 _ q1_121) rfl rfl (dq dt_X1_findHeardInTime 48 rfl) ?_
          refine lv_iconst (v := (1 : Int32)) hx hb (dq dt_X1_findHeardInTime 49 rfl) (by decide) ?_
          refine lv_iadd hx hb (dq dt_X1_findHeardInTime 50 rfl) ?_
          obtain ⟨v28, ev28, hF⟩ := bd_ hF
          refine kNmI ev28 ?_
          refine kPut (ci := 3) (ws' := [(a_t, .inr (7, [.int t_yards, .ref a_t_tides, .int t_seeps, .ref a_t_seepYard, .ref a_t_seepSize, .ref a_t_growth, .ref a_t_level, .int t_children, .ref a_t_kind, .ref a_t_childYard, .ref a_t_pace, .ref a_t_ear])), (a_t_seepYard, .inl (cI, 6, .inl t_seepYard)), (a_t_kind, .inl (cI, 5, .inl t_kind)), (a_t_pace, .inl (cI, 5, .inl t_pace)), (a_t_ear, .inl (cI, 5, .inl t_ear)), (a_n, .inr (3, [.ref a_t, .int n_hours, .int n_filled, .ref a_n_size, .ref a_n_yard, .int n_toLesser, .ref a_n_oranges])), (a_n_size, .inl (cI, 6, .inl n_size)), (a_n_yard, .inl (cI, 5, .inl n_yard)), (a_n_oranges, .inl (cI, 5, .inl n_oranges)), (a_h, .inr (3, [.ref a_t, .int v28, .int g6, .ref a_h_size, .ref a_h_yard, .int g25, .ref a_h_oranges])), (a_h_size, .inl (cI, 6, .inl g8)), (a_h_yard, .inl (cI, 5, .inl g26)), (a_h_oranges, .inl (cI, 5, .inl g10)), (a_f, .inr (1, [.ref a_t, .ref a_n, .ref a_h, .ref a_f_breakHour, .ref a_f_heardInTime])), (a_f_breakHour, .inl (cI, 6, .inl f_breakHour))]) C in_X3 tyX3 tyX3_ok nmX3 hw 9 rfl rfl 1 (by decide) (C.2.2.2.2.2.2.1 _ q1_121) rfl rfl rfl rfl (Nat.le_of_ble_eq_true rfl) rfl (dq dt_X1_findHeardInTime 51 rfl) (fun H locs hw => ?_)
          obtain ⟨v29, ev29, hF⟩ := bd_ hF
          refine lv_iinc (v := v29) (lv' := [(6, .int v29), (5, .int v24), (0, .ref a_f), (1, .int p1), (2, .int p2), (4, .int v4)]) hx hb (dq dt_X1_findHeardInTime 52 rfl) hl (k := 5) rfl ev29.symm (by decide) rfl (fun ls hl => ?_)
          refine lv_goto (tgt := 40) hx hb (dq dt_X1_findHeardInTime 53 rfl) (by decide) ?_
          exact ih17 v24 v29 v28 g25 g26 hF _ _ _ hw (lv_sub hl [2, 3, 4, 5, 1, 0] rfl)
  exact L17 _ (0 : Int32) (0 : Int32) g5 g7 g9 hF _ _ _ hw (lv_sub hl [4, 5, 6, 2, 1, 0] rfl)
def F_X1_missedBy (t_yards : Int32) (t_seeps : Int32) (t_children : Int32) (t_tides : Nat → Int32) (t_seepYard : Nat → Int32) (t_growth : Nat → Int32) (t_level : Nat → Int32) (t_kind : Nat → Int32) (t_pace : Nat → Int32) (t_ear : Nat → Int32) (n_hours : Int32) (n_filled : Int32) (n_toLesser : Int32) (n_size : Nat → Int32) (n_yard : Nat → Int32) (n_oranges : Nat → Int32) (h_hours : Int32) (h_filled : Int32) (h_toLesser : Int32) (h_size : Nat → Int32) (h_yard : Nat → Int32) (h_oranges : Nat → Int32) (f_breakHour : Nat → Int32) (p1 : Int32) : Option (Int32 × Int32 × Int32 × Int32 × (Nat → Int32) × (Nat → Int32) × (Nat → Int32) × (Nat → Int32)) :=
  zc2 (F_X1_findBreaking t_seeps t_tides t_growth t_level n_hours n_filled n_size f_breakHour) (fun v1 g2 => zl8 (fun x4 x5 h6 h7 h8 h9 h10 h11 ag12 => if t_children ≤ x5 then (some (x4, h6, h7, h8, h9, h10, h11, g2)) else (if x4 = 0 then (some (x4, h6, h7, h8, h9, h10, h11, g2)) else (zc1 (F_X8_hasBit p1 x5) (fun v15 => if v15 = 0 then (bd (x5 + (1 : Int32)) (fun v18 => ag12 x4 v18 h6 h7 h8 h9 h10 h11)) else (zc7 (F_X1_findHeardInTime t_yards t_seeps t_seepYard t_kind t_pace t_ear n_hours n_filled n_toLesser n_size n_yard n_oranges h6 h7 h8 h9 h10 h11 g2 x5 x4) (fun v19 g20 g21 g22 g23 g24 g25 => bd (x4 &&& (v19 ^^^ (-1 : Int32))) (fun v27 => bd (x5 + (1 : Int32)) (fun v28 => ag12 v27 v28 g20 g21 g22 g23 g24 g25)))))))) FU v1 (0 : Int32) h_hours h_filled h_toLesser h_size h_yard h_oranges)
abbrev rm_X1_missedBy : Room := { frames := 5, cells := 0, slots := 0, locals := 134 }
theorem kd_X1_missedBy : yX1_missedBy.cls = RX1 ∧ yX1_missedBy.cls ≠ "java/lang/invoke/MethodHandle" ∧ yX1_missedBy.cls ≠ "java/lang/invoke/VarHandle" ∧ (parseMethodDescriptor yX1_missedBy.desc).map (fun d => d.parameters.length) = some 1 := by decide +kernel
set_option maxRecDepth 100000 in
set_option maxHeartbeats 4000000 in
theorem A_X1_missedBy (l : Launch) (D : va_G) (cB cI cJ cZ : ClassId) (ad : (Nat → Nat) × (Nat → Nat)) (a_t a_t_tides a_t_seepYard a_t_seepSize a_t_growth a_t_level a_t_kind a_t_childYard a_t_pace a_t_ear a_n a_n_size a_n_yard a_n_oranges a_h a_h_size a_h_yard a_h_oranges a_f a_f_breakHour a_f_heardInTime : Nat) (t_yards : Int32) (t_seeps : Int32) (t_children : Int32) (t_tides : Nat → Int32) (t_seepYard : Nat → Int32) (t_growth : Nat → Int32) (t_level : Nat → Int32) (t_kind : Nat → Int32) (t_pace : Nat → Int32) (t_ear : Nat → Int32) (n_hours : Int32) (n_filled : Int32) (n_toLesser : Int32) (n_size : Nat → Int32) (n_yard : Nat → Int32) (n_oranges : Nat → Int32) (h_hours : Int32) (h_filled : Int32) (h_toLesser : Int32) (h_size : Nat → Int32) (h_yard : Nat → Int32) (h_oranges : Nat → Int32) (f_breakHour : Nat → Int32) (p1 : Int32) (r : Int32) (h_hours' : Int32) (h_filled' : Int32) (h_toLesser' : Int32) (h_size' : Nat → Int32) (h_yard' : Nat → Int32) (h_oranges' : Nat → Int32) (f_breakHour' : Nat → Int32) (hF : F_X1_missedBy t_yards t_seeps t_children t_tides t_seepYard t_growth t_level t_kind t_pace t_ear n_hours n_filled n_toLesser n_size n_yard n_oranges h_hours h_filled h_toLesser h_size h_yard h_oranges f_breakHour p1 = some (r, h_hours', h_filled', h_toLesser', h_size', h_yard', h_oranges', f_breakHour')) : kM l yX1_missedBy (Cond.code yX1_missedBy cX1_missedBy 4 (some .int) :: W0) rm_X1_missedBy D (kT cB cI cJ cZ) ad [.ref a_f, .int p1] [(a_t, .inr (7, [.int t_yards, .ref a_t_tides, .int t_seeps, .ref a_t_seepYard, .ref a_t_seepSize, .ref a_t_growth, .ref a_t_level, .int t_children, .ref a_t_kind, .ref a_t_childYard, .ref a_t_pace, .ref a_t_ear])), (a_t_tides, .inl (cI, 12, .inl t_tides)), (a_t_seepYard, .inl (cI, 6, .inl t_seepYard)), (a_t_growth, .inl (cI, 6, .inl t_growth)), (a_t_level, .inl (cI, 6, .inl t_level)), (a_t_kind, .inl (cI, 5, .inl t_kind)), (a_t_pace, .inl (cI, 5, .inl t_pace)), (a_t_ear, .inl (cI, 5, .inl t_ear)), (a_n, .inr (3, [.ref a_t, .int n_hours, .int n_filled, .ref a_n_size, .ref a_n_yard, .int n_toLesser, .ref a_n_oranges])), (a_n_size, .inl (cI, 6, .inl n_size)), (a_n_yard, .inl (cI, 5, .inl n_yard)), (a_n_oranges, .inl (cI, 5, .inl n_oranges)), (a_h, .inr (3, [.ref a_t, .int h_hours, .int h_filled, .ref a_h_size, .ref a_h_yard, .int h_toLesser, .ref a_h_oranges])), (a_h_size, .inl (cI, 6, .inl h_size)), (a_h_yard, .inl (cI, 5, .inl h_yard)), (a_h_oranges, .inl (cI, 5, .inl h_oranges)), (a_f, .inr (1, [.ref a_t, .ref a_n, .ref a_h, .ref a_f_breakHour, .ref a_f_heardInTime])), (a_f_breakHour, .inl (cI, 6, .inl f_breakHour))] (some (.int r)) [(a_t, .inr (7, [.int t_yards, .ref a_t_tides, .int t_seeps, .ref a_t_seepYard, .ref a_t_seepSize, .ref a_t_growth, .ref a_t_level, .int t_children, .ref a_t_kind, .ref a_t_childYard, .ref a_t_pace, .ref a_t_ear])), (a_t_tides, .inl (cI, 12, .inl t_tides)), (a_t_seepYard, .inl (cI, 6, .inl t_seepYard)), (a_t_growth, .inl (cI, 6, .inl t_growth)), (a_t_level, .inl (cI, 6, .inl t_level)), (a_t_kind, .inl (cI, 5, .inl t_kind)), (a_t_pace, .inl (cI, 5, .inl t_pace)), (a_t_ear, .inl (cI, 5, .inl t_ear)), (a_n, .inr (3, [.ref a_t, .int n_hours, .int n_filled, .ref a_n_size, .ref a_n_yard, .int n_toLesser, .ref a_n_oranges])), (a_n_size, .inl (cI, 6, .inl n_size)), (a_n_yard, .inl (cI, 5, .inl n_yard)), (a_n_oranges, .inl (cI, 5, .inl n_oranges)), (a_h, .inr (3, [.ref a_t, .int (h_hours'), .int (h_filled'), .ref a_h_size, .ref a_h_yard, .int (h_toLesser'), .ref a_h_oranges])), (a_h_size, .inl (cI, 6, .inl (h_size'))), (a_h_yard, .inl (cI, 5, .inl (h_yard'))), (a_h_oranges, .inl (cI, 5, .inl (h_oranges'))), (a_f, .inr (1, [.ref a_t, .ref a_n, .ref a_h, .ref a_f_breakHour, .ref a_f_heardInTime])), (a_f_breakHour, .inl (cI, 6, .inl (f_breakHour')))] := by
  unfold F_X1_missedBy at hF
  refine kStart (lv := [(0, .ref a_f), (1, .int p1)]) (own := "DikeWatch$Foretold") (plainFor_of_name (by decide)) rfl (Nat.le_of_ble_eq_true rfl) rfl ?_
  intro p e s m args below meth c A Q ls hQ C hx hb hw hl
  refine lv_aload_n hx hb (dq dt_X1_missedBy 0 rfl) rfl (lv_at hl 0 rfl) ?_
  obtain ⟨v1, g2, hr3, hF⟩ := zc2_ hF
  refine kCallV (ws2 := [(a_t, .inr (7, [.int t_yards, .ref a_t_tides, .int t_seeps, .ref a_t_seepYard, .ref a_t_seepSize, .ref a_t_growth, .ref a_t_level, .int t_children, .ref a_t_kind, .ref a_t_childYard, .ref a_t_pace, .ref a_t_ear])), (a_t_tides, .inl (cI, 12, .inl t_tides)), (a_t_seepYard, .inl (cI, 6, .inl t_seepYard)), (a_t_growth, .inl (cI, 6, .inl t_growth)), (a_t_level, .inl (cI, 6, .inl t_level)), (a_t_kind, .inl (cI, 5, .inl t_kind)), (a_t_pace, .inl (cI, 5, .inl t_pace)), (a_t_ear, .inl (cI, 5, .inl t_ear)), (a_n, .inr (3, [.ref a_t, .int n_hours, .int n_filled, .ref a_n_size, .ref a_n_yard, .int n_toLesser, .ref a_n_oranges])), (a_n_size, .inl (cI, 6, .inl n_size)), (a_n_yard, .inl (cI, 5, .inl n_yard)), (a_n_oranges, .inl (cI, 5, .inl n_oranges)), (a_h, .inr (3, [.ref a_t, .int h_hours, .int h_filled, .ref a_h_size, .ref a_h_yard, .int h_toLesser, .ref a_h_oranges])), (a_h_size, .inl (cI, 6, .inl h_size)), (a_h_yard, .inl (cI, 5, .inl h_yard)), (a_h_oranges, .inl (cI, 5, .inl h_oranges)), (a_f, .inr (1, [.ref a_t, .ref a_n, .ref a_h, .ref a_f_breakHour, .ref a_f_heardInTime])), (a_f_breakHour, .inl (cI, 6, .inl g2))]) C hw (A_X1_findBreaking l D cB cI cJ cZ ad a_t a_t_tides a_t_seepYard a_t_seepSize a_t_growth a_t_level a_t_kind a_t_childYard a_t_pace a_t_ear a_n a_n_size a_n_yard a_n_oranges a_f a_h a_f_breakHour a_f_heardInTime t_yards t_seeps t_children t_tides t_growth t_level n_hours n_filled n_toLesser n_size f_breakHour v1 g2 hr3) (cwV 0 C.2.2.2.2.2.2.1 (w0_V0 q3_177 q3_174 q3_176 (ws0 11 rfl) q1_5) rfl rfl rfl kd_X1_findBreaking ⟨Nat.le_of_ble_eq_true rfl, Nat.le_of_ble_eq_true rfl⟩) [0, 1, 3, 4, 8, 9, 16, 17] rfl rfl rfl rfl 16 1 rfl rfl hl.1 rfl rfl rfl (Nat.le_of_ble_eq_true rfl) ⟨Nat.le_of_ble_eq_true rfl, Nat.le_of_ble_eq_true rfl⟩ (dq dt_X1_missedBy 1 rfl) (fun H locs hw => ?_)
  refine lv_istore_n (lv' := [(2, .int v1), (0, .ref a_f), (1, .int p1)]) hx hb (dq dt_X1_missedBy 2 rfl) rfl hl (by decide) rfl (fun ls hl => ?_)
  refine lv_iconst (v := (0 : Int32)) hx hb (dq dt_X1_missedBy 3 rfl) (by decide) ?_
  refine lv_istore_n (lv' := [(3, .int (0 : Int32)), (2, .int v1), (0, .ref a_f), (1, .int p1)]) hx hb (dq dt_X1_missedBy 4 rfl) rfl hl (by decide) rfl (fun ls hl => ?_)
  obtain ⟨K12, hK012, hK12, hF⟩ := zl8_ hF
  have L12 : ∀ (n : Nat) (x4 : Int32) (x5 : Int32) (h6 : Int32) (h7 : Int32) (h8 : Int32) (h9 : Nat → Int32) (h10 : Nat → Int32) (h11 : Nat → Int32), K12 n x4 x5 h6 h7 h8 h9 h10 h11 = some (r, h_hours', h_filled', h_toLesser', h_size', h_yard', h_oranges', f_breakHour') → ∀ (H : Heap) (locs : List Loc) (ls : Array Slot), kW D A s.heap [(a_t, .inr (7, [.int t_yards, .ref a_t_tides, .int t_seeps, .ref a_t_seepYard, .ref a_t_seepSize, .ref a_t_growth, .ref a_t_level, .int t_children, .ref a_t_kind, .ref a_t_childYard, .ref a_t_pace, .ref a_t_ear])), (a_t_tides, .inl (cI, 12, .inl t_tides)), (a_t_seepYard, .inl (cI, 6, .inl t_seepYard)), (a_t_growth, .inl (cI, 6, .inl t_growth)), (a_t_level, .inl (cI, 6, .inl t_level)), (a_t_kind, .inl (cI, 5, .inl t_kind)), (a_t_pace, .inl (cI, 5, .inl t_pace)), (a_t_ear, .inl (cI, 5, .inl t_ear)), (a_n, .inr (3, [.ref a_t, .int n_hours, .int n_filled, .ref a_n_size, .ref a_n_yard, .int n_toLesser, .ref a_n_oranges])), (a_n_size, .inl (cI, 6, .inl n_size)), (a_n_yard, .inl (cI, 5, .inl n_yard)), (a_n_oranges, .inl (cI, 5, .inl n_oranges)), (a_h, .inr (3, [.ref a_t, .int h6, .int h7, .ref a_h_size, .ref a_h_yard, .int h8, .ref a_h_oranges])), (a_h_size, .inl (cI, 6, .inl h9)), (a_h_yard, .inl (cI, 5, .inl h10)), (a_h_oranges, .inl (cI, 5, .inl h11)), (a_f, .inr (1, [.ref a_t, .ref a_n, .ref a_h, .ref a_f_breakHour, .ref a_f_heardInTime])), (a_f_breakHour, .inl (cI, 6, .inl g2))] H locs → lv_has ls 4 [(0, .ref a_f), (1, .int p1), (2, .int x4), (3, .int x5)] → W p l e rm_X1_missedBy s m args below meth c H locs 0 0 Q (F0 m 7 ls []) := by
    intro n
    induction n with
    | zero => intro x4 x5 h6 h7 h8 h9 h10 h11 hF; exact (lp_no (hK012 x4 x5 h6 h7 h8 h9 h10 h11) hF).elim
    | succ n ih12 =>
      intro x4 x5 h6 h7 h8 h9 h10 h11 hF H locs ls hw hl
      replace hF := hK12 n x4 x5 h6 h7 h8 h9 h10 h11 hF
      refine lv_iload_n hx hb (dq dt_X1_missedBy 5 rfl) rfl (lv_at hl 3 rfl) ?_
      refine lv_aload_n hx hb (dq dt_X1_missedBy 6 rfl) rfl (lv_at hl 0 rfl) ?_
      refine kGet (ci := 1) C in_X1 hw 16 rfl rfl 0 (by decide) (C.2.2.2.2.2.2.1 _ q1_154) rfl rfl (dq dt_X1_missedBy 7 rfl) ?_
      refine kGet (ci := 7) C in_X7 hw 0 rfl rfl 7 (by decide) (C.2.2.2.2.2.2.1 _ q1_75) rfl rfl (dq dt_X1_missedBy 8 rfl) ?_
      refine lv_icmp_ge (tgt := 47) hx hb (dq dt_X1_missedBy 9 rfl) (by decide) (fun c13 => ?_) (fun c13 => ?_)
      · replace hF := if_t c13 hF
        refine lv_iload_n hx hb (dq dt_X1_missedBy 27 rfl) rfl (lv_at hl 2 rfl) ?_
        cases hF
        exact kRetI hQ C hw (dq dt_X1_missedBy 28 rfl)
      · replace hF := if_f c13 hF
        refine lv_iload_n hx hb (dq dt_X1_missedBy 10 rfl) rfl (lv_at hl 2 rfl) ?_
        refine lv_if_eq (tgt := 47) hx hb (dq dt_X1_missedBy 11 rfl) (by decide) (fun c14 => ?_) (fun c14 => ?_)
        · replace hF := if_t c14 hF
          refine lv_iload_n hx hb (dq dt_X1_missedBy 27 rfl) rfl (lv_at hl 2 rfl) ?_
          cases hF
          exact kRetI hQ C hw (dq dt_X1_missedBy 28 rfl)
        · replace hF := if_f c14 hF
          refine lv_iload_n hx hb (dq dt_X1_missedBy 12 rfl) rfl (lv_at hl 1 rfl) ?_
          refine lv_iload_n hx hb (dq dt_X1_missedBy 13 rfl) rfl (lv_at hl 3 rfl) ?_
          obtain ⟨v15, hr16, hF⟩ := zc1_ hF
          refine kCallSN C hw (A_X8_hasBit l D cB cI cJ cZ ad p1 x5 v15 hr16) ⟨va_cnB 2 C.2.2.2.2.2.2.1 (w0_all0 q3_18) rfl rfl rfl (C.2.2.2.2.2.2.2.2.1.1 _ (List.mem_of_getElem? (i := 9) rfl)) (C.2.2.2.2.2.2.1 _ q1_1) ke_X8_hasBit ⟨Nat.le_of_ble_eq_true rfl, Nat.le_of_ble_eq_true rfl⟩, (C.2.2.2.2.2.2.1 _ q3_17), trivial⟩ hl.1 rfl rfl rfl (Nat.le_of_ble_eq_true rfl) ⟨Nat.le_of_ble_eq_true rfl, Nat.le_of_ble_eq_true rfl⟩ (dq dt_X1_missedBy 14 rfl) (fun H locs hw => ?_)
          refine lv_if_eq (tgt := 41) hx hb (dq dt_X1_missedBy 15 rfl) (by decide) (fun c17 => ?_) (fun c17 => ?_)
          · replace hF := if_t c17 hF
            obtain ⟨v18, ev18, hF⟩ := bd_ hF
            refine lv_iinc (v := v18) (lv' := [(3, .int v18), (0, .ref a_f), (1, .int p1), (2, .int x4)]) hx hb (dq dt_X1_missedBy 25 rfl) hl (k := 3) rfl ev18.symm (by decide) rfl (fun ls hl => ?_)
            refine lv_goto (tgt := 7) hx hb (dq dt_X1_missedBy 26 rfl) (by decide) ?_
            exact ih12 x4 v18 h6 h7 h8 h9 h10 h11 hF _ _ _ hw (lv_sub hl [1, 2, 3, 0] rfl)
          · replace hF := if_f c17 hF
            refine lv_iload_n hx hb (dq dt_X1_missedBy 16 rfl) rfl (lv_at hl 2 rfl) ?_
            refine lv_aload_n hx hb (dq dt_X1_missedBy 17 rfl) rfl (lv_at hl 0 rfl) ?_
            refine lv_iload_n hx hb (dq dt_X1_missedBy 18 rfl) rfl (lv_at hl 3 rfl) ?_
            refine lv_iload_n hx hb (dq dt_X1_missedBy 19 rfl) rfl (lv_at hl 2 rfl) ?_
            obtain ⟨v19, g20, g21, g22, g23, g24, g25, hr26, hF⟩ := zc7_ hF
            refine kCallV (ws2 := [(a_t, .inr (7, [.int t_yards, .ref a_t_tides, .int t_seeps, .ref a_t_seepYard, .ref a_t_seepSize, .ref a_t_growth, .ref a_t_level, .int t_children, .ref a_t_kind, .ref a_t_childYard, .ref a_t_pace, .ref a_t_ear])), (a_t_tides, .inl (cI, 12, .inl t_tides)), (a_t_seepYard, .inl (cI, 6, .inl t_seepYard)), (a_t_growth, .inl (cI, 6, .inl t_growth)), (a_t_level, .inl (cI, 6, .inl t_level)), (a_t_kind, .inl (cI, 5, .inl t_kind)), (a_t_pace, .inl (cI, 5, .inl t_pace)), (a_t_ear, .inl (cI, 5, .inl t_ear)), (a_n, .inr (3, [.ref a_t, .int n_hours, .int n_filled, .ref a_n_size, .ref a_n_yard, .int n_toLesser, .ref a_n_oranges])), (a_n_size, .inl (cI, 6, .inl n_size)), (a_n_yard, .inl (cI, 5, .inl n_yard)), (a_n_oranges, .inl (cI, 5, .inl n_oranges)), (a_h, .inr (3, [.ref a_t, .int g20, .int g21, .ref a_h_size, .ref a_h_yard, .int g22, .ref a_h_oranges])), (a_h_size, .inl (cI, 6, .inl g23)), (a_h_yard, .inl (cI, 5, .inl g24)), (a_h_oranges, .inl (cI, 5, .inl g25)), (a_f, .inr (1, [.ref a_t, .ref a_n, .ref a_h, .ref a_f_breakHour, .ref a_f_heardInTime])), (a_f_breakHour, .inl (cI, 6, .inl g2))]) C hw (A_X1_findHeardInTime l D cB cI cJ cZ ad a_t a_t_tides a_t_seepYard a_t_seepSize a_t_growth a_t_level a_t_kind a_t_childYard a_t_pace a_t_ear a_n a_n_size a_n_yard a_n_oranges a_h a_h_size a_h_yard a_h_oranges a_f a_f_breakHour a_f_heardInTime t_yards t_seeps t_children t_seepYard t_kind t_pace t_ear n_hours n_filled n_toLesser n_size n_yard n_oranges h6 h7 h8 h9 h10 h11 g2 x5 x4 v19 g20 g21 g22 g23 g24 g25 hr26) (cwV 2 C.2.2.2.2.2.2.1 (w0_V0 q3_184 q3_181 q3_183 (ws0 12 rfl) q1_5) rfl rfl rfl kd_X1_findHeardInTime ⟨Nat.le_of_ble_eq_true rfl, Nat.le_of_ble_eq_true rfl⟩) [0, 2, 5, 6, 7, 8, 9, 10, 11, 12, 13, 14, 15, 16, 17] rfl rfl rfl rfl 16 1 rfl rfl hl.1 rfl rfl rfl (Nat.le_of_ble_eq_true rfl) ⟨Nat.le_of_ble_eq_true rfl, Nat.le_of_ble_eq_true rfl⟩ (dq dt_X1_missedBy 20 rfl) (fun H locs hw => ?_)
            refine lv_iconst (v := (-1 : Int32)) hx hb (dq dt_X1_missedBy 21 rfl) (by decide) ?_
            refine lv_ixor hx hb (dq dt_X1_missedBy 22 rfl) ?_
            refine lv_iand hx hb (dq dt_X1_missedBy 23 rfl) ?_
            obtain ⟨v27, ev27, hF⟩ := bd_ hF
            refine kNmI ev27 ?_
            refine lv_istore_n (lv' := [(2, .int v27), (0, .ref a_f), (1, .int p1), (3, .int x5)]) hx hb (dq dt_X1_missedBy 24 rfl) rfl hl (by decide) rfl (fun ls hl => ?_)
            obtain ⟨v28, ev28, hF⟩ := bd_ hF
            refine lv_iinc (v := v28) (lv' := [(3, .int v28), (2, .int v27), (0, .ref a_f), (1, .int p1)]) hx hb (dq dt_X1_missedBy 25 rfl) hl (k := 3) rfl ev28.symm (by decide) rfl (fun ls hl => ?_)
            refine lv_goto (tgt := 7) hx hb (dq dt_X1_missedBy 26 rfl) (by decide) ?_
            exact ih12 v27 v28 g20 g21 g22 g23 g24 g25 hF _ _ _ hw (lv_sub hl [2, 3, 1, 0] rfl)
  exact L12 _ v1 (0 : Int32) h_hours h_filled h_toLesser h_size h_yard h_oranges hF _ _ _ hw (lv_sub hl [2, 3, 1, 0] rfl)
def F_X8_missed (t_yards : Int32) (t_seeps : Int32) (t_children : Int32) (t_tides : Nat → Int32) (t_seepYard : Nat → Int32) (t_growth : Nat → Int32) (t_level : Nat → Int32) (t_kind : Nat → Int32) (t_pace : Nat → Int32) (t_ear : Nat → Int32) (n_hours : Int32) (n_filled : Int32) (n_toLesser : Int32) (n_size : Nat → Int32) (n_yard : Nat → Int32) (n_oranges : Nat → Int32) (h_hours : Int32) (h_filled : Int32) (h_toLesser : Int32) (h_size : Nat → Int32) (h_yard : Nat → Int32) (h_oranges : Nat → Int32) (f_breakHour : Nat → Int32) (p1 : Int32) : Option (Int32 × Int32 × Int32 × Int32 × (Nat → Int32) × (Nat → Int32) × (Nat → Int32) × (Nat → Int32)) :=
  zc1 (F_X7_hasChildren t_children p1) (fun v1 => if v1 = 0 then (some ((-2 : Int32), h_hours, h_filled, h_toLesser, h_size, h_yard, h_oranges, f_breakHour)) else (zc8 (F_X1_missedBy t_yards t_seeps t_children t_tides t_seepYard t_growth t_level t_kind t_pace t_ear n_hours n_filled n_toLesser n_size n_yard n_oranges h_hours h_filled h_toLesser h_size h_yard h_oranges f_breakHour p1) (fun v4 g5 g6 g7 g8 g9 g10 g11 => some (v4, g5, g6, g7, g8, g9, g10, g11))))
abbrev rm_X8_missed : Room := { frames := 6, cells := 0, slots := 0, locals := 157 }
theorem kd_X8_missed : yX8_missed.cls = RX8 ∧ yX8_missed.cls ≠ "java/lang/invoke/MethodHandle" ∧ yX8_missed.cls ≠ "java/lang/invoke/VarHandle" ∧ (parseMethodDescriptor yX8_missed.desc).map (fun d => d.parameters.length) = some 1 := by decide +kernel
set_option maxRecDepth 100000 in
set_option maxHeartbeats 4000000 in
theorem A_X8_missed (l : Launch) (D : va_G) (cB cI cJ cZ : ClassId) (ad : (Nat → Nat) × (Nat → Nat)) (a_d a_x a_t a_g a_r a_n a_k a_j a_f a_e a_z a_c a_t_tides a_t_seepYard a_t_seepSize a_t_growth a_t_level a_t_kind a_t_childYard a_t_pace a_t_ear a_n_size a_n_yard a_n_oranges a_h a_h_size a_h_yard a_h_oranges a_f_breakHour a_f_heardInTime : Nat) (d_keptBits : Int32) (t_yards : Int32) (t_seeps : Int32) (t_children : Int32) (t_tides : Nat → Int32) (t_seepYard : Nat → Int32) (t_growth : Nat → Int32) (t_level : Nat → Int32) (t_kind : Nat → Int32) (t_pace : Nat → Int32) (t_ear : Nat → Int32) (n_hours : Int32) (n_filled : Int32) (n_toLesser : Int32) (n_size : Nat → Int32) (n_yard : Nat → Int32) (n_oranges : Nat → Int32) (h_hours : Int32) (h_filled : Int32) (h_toLesser : Int32) (h_size : Nat → Int32) (h_yard : Nat → Int32) (h_oranges : Nat → Int32) (f_breakHour : Nat → Int32) (p1 : Int32) (r : Int32) (h_hours' : Int32) (h_filled' : Int32) (h_toLesser' : Int32) (h_size' : Nat → Int32) (h_yard' : Nat → Int32) (h_oranges' : Nat → Int32) (f_breakHour' : Nat → Int32) (hF : F_X8_missed t_yards t_seeps t_children t_tides t_seepYard t_growth t_level t_kind t_pace t_ear n_hours n_filled n_toLesser n_size n_yard n_oranges h_hours h_filled h_toLesser h_size h_yard h_oranges f_breakHour p1 = some (r, h_hours', h_filled', h_toLesser', h_size', h_yard', h_oranges', f_breakHour')) : kM l yX8_missed (Cond.code yX8_missed cX8_missed 2 (some .int) :: W0) rm_X8_missed D (kT cB cI cJ cZ) ad [.ref a_d, .int p1] [(a_d, .inr (8, [.ref a_x, .ref a_t, .ref a_g, .ref a_r, .ref a_n, .ref a_k, .ref a_j, .int d_keptBits, .ref a_f, .ref a_e, .ref a_z, .ref a_c])), (a_t, .inr (7, [.int t_yards, .ref a_t_tides, .int t_seeps, .ref a_t_seepYard, .ref a_t_seepSize, .ref a_t_growth, .ref a_t_level, .int t_children, .ref a_t_kind, .ref a_t_childYard, .ref a_t_pace, .ref a_t_ear])), (a_t_tides, .inl (cI, 12, .inl t_tides)), (a_t_seepYard, .inl (cI, 6, .inl t_seepYard)), (a_t_growth, .inl (cI, 6, .inl t_growth)), (a_t_level, .inl (cI, 6, .inl t_level)), (a_t_kind, .inl (cI, 5, .inl t_kind)), (a_t_pace, .inl (cI, 5, .inl t_pace)), (a_t_ear, .inl (cI, 5, .inl t_ear)), (a_n, .inr (3, [.ref a_t, .int n_hours, .int n_filled, .ref a_n_size, .ref a_n_yard, .int n_toLesser, .ref a_n_oranges])), (a_n_size, .inl (cI, 6, .inl n_size)), (a_n_yard, .inl (cI, 5, .inl n_yard)), (a_n_oranges, .inl (cI, 5, .inl n_oranges)), (a_h, .inr (3, [.ref a_t, .int h_hours, .int h_filled, .ref a_h_size, .ref a_h_yard, .int h_toLesser, .ref a_h_oranges])), (a_h_size, .inl (cI, 6, .inl h_size)), (a_h_yard, .inl (cI, 5, .inl h_yard)), (a_h_oranges, .inl (cI, 5, .inl h_oranges)), (a_f, .inr (1, [.ref a_t, .ref a_n, .ref a_h, .ref a_f_breakHour, .ref a_f_heardInTime])), (a_f_breakHour, .inl (cI, 6, .inl f_breakHour))] (some (.int r)) [(a_d, .inr (8, [.ref a_x, .ref a_t, .ref a_g, .ref a_r, .ref a_n, .ref a_k, .ref a_j, .int d_keptBits, .ref a_f, .ref a_e, .ref a_z, .ref a_c])), (a_t, .inr (7, [.int t_yards, .ref a_t_tides, .int t_seeps, .ref a_t_seepYard, .ref a_t_seepSize, .ref a_t_growth, .ref a_t_level, .int t_children, .ref a_t_kind, .ref a_t_childYard, .ref a_t_pace, .ref a_t_ear])), (a_t_tides, .inl (cI, 12, .inl t_tides)), (a_t_seepYard, .inl (cI, 6, .inl t_seepYard)), (a_t_growth, .inl (cI, 6, .inl t_growth)), (a_t_level, .inl (cI, 6, .inl t_level)), (a_t_kind, .inl (cI, 5, .inl t_kind)), (a_t_pace, .inl (cI, 5, .inl t_pace)), (a_t_ear, .inl (cI, 5, .inl t_ear)), (a_n, .inr (3, [.ref a_t, .int n_hours, .int n_filled, .ref a_n_size, .ref a_n_yard, .int n_toLesser, .ref a_n_oranges])), (a_n_size, .inl (cI, 6, .inl n_size)), (a_n_yard, .inl (cI, 5, .inl n_yard)), (a_n_oranges, .inl (cI, 5, .inl n_oranges)), (a_h, .inr (3, [.ref a_t, .int (h_hours'), .int (h_filled'), .ref a_h_size, .ref a_h_yard, .int (h_toLesser'), .ref a_h_oranges])), (a_h_size, .inl (cI, 6, .inl (h_size'))), (a_h_yard, .inl (cI, 5, .inl (h_yard'))), (a_h_oranges, .inl (cI, 5, .inl (h_oranges'))), (a_f, .inr (1, [.ref a_t, .ref a_n, .ref a_h, .ref a_f_breakHour, .ref a_f_heardInTime])), (a_f_breakHour, .inl (cI, 6, .inl (f_breakHour')))] := by
  unfold F_X8_missed at hF
  refine kStart (lv := [(0, .ref a_d), (1, .int p1)]) (own := "DikeWatch") (plainFor_of_name (by decide)) rfl (Nat.le_of_ble_eq_true rfl) rfl ?_
  intro p e s m args below meth c A Q ls hQ C hx hb hw hl
  refine lv_aload_n hx hb (dq dt_X8_missed 0 rfl) rfl (lv_at hl 0 rfl) ?_
  refine kGet (ci := 8) C in_X8 hw 0 rfl rfl 1 (by decide) (C.2.2.2.2.2.2.1 _ q2_23) rfl rfl (dq dt_X8_missed 1 rfl) ?_
  refine lv_iload_n hx hb (dq dt_X8_missed 2 rfl) rfl (lv_at hl 1 rfl) ?_
  obtain ⟨v1, hr2, hF⟩ := zc1_ hF
  refine kCallVR C hw (A_X7_hasChildren l D cB cI cJ cZ ad a_t a_t_tides a_t_seepYard a_t_seepSize a_t_growth a_t_level a_t_kind a_t_childYard a_t_pace a_t_ear t_yards t_seeps t_children p1 v1 hr2) (cwV 1 C.2.2.2.2.2.2.1 (w0_V0 q3_166 q3_163 q3_164 q3_165 q1_3) rfl rfl rfl kd_X7_hasChildren ⟨Nat.le_of_ble_eq_true rfl, Nat.le_of_ble_eq_true rfl⟩) [1] rfl rfl 1 7 rfl rfl hl.1 rfl rfl rfl (Nat.le_of_ble_eq_true rfl) ⟨Nat.le_of_ble_eq_true rfl, Nat.le_of_ble_eq_true rfl⟩ (dq dt_X8_missed 3 rfl) (fun H locs hw => ?_)
  refine lv_if_eq (tgt := 22) hx hb (dq dt_X8_missed 4 rfl) (by decide) (fun c3 => ?_) (fun c3 => ?_)
  · replace hF := if_t c3 hF
    refine lv_bipush (v := (-2 : Int32)) hx hb (dq dt_X8_missed 10 rfl) (by decide) ?_
    cases hF
    exact kRetI hQ C hw (dq dt_X8_missed 11 rfl)
  · replace hF := if_f c3 hF
    refine lv_aload_n hx hb (dq dt_X8_missed 5 rfl) rfl (lv_at hl 0 rfl) ?_
    refine kGet (ci := 8) C in_X8 hw 0 rfl rfl 8 (by decide) (C.2.2.2.2.2.2.1 _ q2_30) rfl rfl (dq dt_X8_missed 6 rfl) ?_
    refine lv_iload_n hx hb (dq dt_X8_missed 7 rfl) rfl (lv_at hl 1 rfl) ?_
    obtain ⟨v4, g5, g6, g7, g8, g9, g10, g11, hr12, hF⟩ := zc8_ hF
    refine kCallV (ws2 := [(a_d, .inr (8, [.ref a_x, .ref a_t, .ref a_g, .ref a_r, .ref a_n, .ref a_k, .ref a_j, .int d_keptBits, .ref a_f, .ref a_e, .ref a_z, .ref a_c])), (a_t, .inr (7, [.int t_yards, .ref a_t_tides, .int t_seeps, .ref a_t_seepYard, .ref a_t_seepSize, .ref a_t_growth, .ref a_t_level, .int t_children, .ref a_t_kind, .ref a_t_childYard, .ref a_t_pace, .ref a_t_ear])), (a_t_tides, .inl (cI, 12, .inl t_tides)), (a_t_seepYard, .inl (cI, 6, .inl t_seepYard)), (a_t_growth, .inl (cI, 6, .inl t_growth)), (a_t_level, .inl (cI, 6, .inl t_level)), (a_t_kind, .inl (cI, 5, .inl t_kind)), (a_t_pace, .inl (cI, 5, .inl t_pace)), (a_t_ear, .inl (cI, 5, .inl t_ear)), (a_n, .inr (3, [.ref a_t, .int n_hours, .int n_filled, .ref a_n_size, .ref a_n_yard, .int n_toLesser, .ref a_n_oranges])), (a_n_size, .inl (cI, 6, .inl n_size)), (a_n_yard, .inl (cI, 5, .inl n_yard)), (a_n_oranges, .inl (cI, 5, .inl n_oranges)), (a_h, .inr (3, [.ref a_t, .int g5, .int g6, .ref a_h_size, .ref a_h_yard, .int g7, .ref a_h_oranges])), (a_h_size, .inl (cI, 6, .inl g8)), (a_h_yard, .inl (cI, 5, .inl g9)), (a_h_oranges, .inl (cI, 5, .inl g10)), (a_f, .inr (1, [.ref a_t, .ref a_n, .ref a_h, .ref a_f_breakHour, .ref a_f_heardInTime])), (a_f_breakHour, .inl (cI, 6, .inl g11))]) C hw (A_X1_missedBy l D cB cI cJ cZ ad a_t a_t_tides a_t_seepYard a_t_seepSize a_t_growth a_t_level a_t_kind a_t_childYard a_t_pace a_t_ear a_n a_n_size a_n_yard a_n_oranges a_h a_h_size a_h_yard a_h_oranges a_f a_f_breakHour a_f_heardInTime t_yards t_seeps t_children t_tides t_seepYard t_growth t_level t_kind t_pace t_ear n_hours n_filled n_toLesser n_size n_yard n_oranges h_hours h_filled h_toLesser h_size h_yard h_oranges f_breakHour p1 v4 g5 g6 g7 g8 g9 g10 g11 hr12) (cwV 1 C.2.2.2.2.2.2.1 (w0_V0 q3_173 q3_170 q3_171 q3_172 q1_5) rfl rfl rfl kd_X1_missedBy ⟨Nat.le_of_ble_eq_true rfl, Nat.le_of_ble_eq_true rfl⟩) [1, 2, 3, 4, 5, 6, 7, 8, 9, 10, 11, 12, 13, 14, 15, 16, 17, 18] rfl rfl rfl rfl 17 1 rfl rfl hl.1 rfl rfl rfl (Nat.le_of_ble_eq_true rfl) ⟨Nat.le_of_ble_eq_true rfl, Nat.le_of_ble_eq_true rfl⟩ (dq dt_X8_missed 8 rfl) (fun H locs hw => ?_)
    refine lv_goto (tgt := 24) hx hb (dq dt_X8_missed 9 rfl) (by decide) ?_
    cases hF
    exact kRetI hQ C hw (dq dt_X8_missed 11 rfl)
def F_J6_bitCount_0f7a4 (p1 : Int32) : Option (Int32) :=
  bd (p1 - (((p1.toUInt32 >>> ((1 : Int32).toUInt32 &&& Int32.toUInt32 31)).toInt32) &&& (1431655765 : Int32))) (fun v1 => bd ((v1 &&& (858993459 : Int32)) + (((v1.toUInt32 >>> ((2 : Int32).toUInt32 &&& Int32.toUInt32 31)).toInt32) &&& (858993459 : Int32))) (fun v2 => bd ((v2 + ((v2.toUInt32 >>> ((4 : Int32).toUInt32 &&& Int32.toUInt32 31)).toInt32)) &&& (252645135 : Int32)) (fun v3 => bd (v3 + ((v3.toUInt32 >>> ((8 : Int32).toUInt32 &&& Int32.toUInt32 31)).toInt32)) (fun v4 => bd (v4 + ((v4.toUInt32 >>> ((16 : Int32).toUInt32 &&& Int32.toUInt32 31)).toInt32)) (fun v5 => some (v5 &&& (63 : Int32)))))))
abbrev rm_J6_bitCount_0f7a4 : Room := { frames := 0, cells := 0, slots := 0, locals := 0 }
theorem ke_J6_bitCount_0f7a4 : yJ6_bitCount_0f7a4.cls ≠ "java/lang/invoke/MethodHandle" ∧ yJ6_bitCount_0f7a4.cls ≠ "java/lang/invoke/VarHandle" ∧ (parseMethodDescriptor yJ6_bitCount_0f7a4.desc).map (fun d => d.parameters.length) = some 1 := by decide +kernel
set_option maxRecDepth 100000 in
set_option maxHeartbeats 4000000 in
theorem A_J6_bitCount_0f7a4 (l : Launch) (D : va_G) (cB cI cJ cZ : ClassId) (ad : (Nat → Nat) × (Nat → Nat)) (p1 : Int32) (r : Int32) (hF : F_J6_bitCount_0f7a4 p1 = some r) : kM l yJ6_bitCount_0f7a4 (Cond.code yJ6_bitCount_0f7a4 cJ6_bitCount_0f7a4 1 (some .int) :: W0) rm_J6_bitCount_0f7a4 D (kT cB cI cJ cZ) ad [.int p1] [] (some (.int r)) [] := by
  unfold F_J6_bitCount_0f7a4 at hF
  refine kStart (lv := [(0, .int p1)]) (own := "java/lang/Integer") (by decide +kernel) rfl (Nat.le_of_ble_eq_true rfl) rfl ?_
  intro p e s m args below meth c A Q ls hQ C hx hb hw hl
  refine lv_iload_n hx hb (dq dt_J6_bitCount_0f7a4 0 rfl) rfl (lv_at hl 0 rfl) ?_
  refine lv_iload_n hx hb (dq dt_J6_bitCount_0f7a4 1 rfl) rfl (lv_at hl 0 rfl) ?_
  refine lv_iconst (v := (1 : Int32)) hx hb (dq dt_J6_bitCount_0f7a4 2 rfl) (by decide) ?_
  refine lv_iushr (v := (p1.toUInt32 >>> ((1 : Int32).toUInt32 &&& Int32.toUInt32 31)).toInt32) hx hb (dq dt_J6_bitCount_0f7a4 3 rfl) rfl ?_
  refine lv_ldcw (v := (1431655765 : Int32)) hx hb C.2.2.2.2.2.1 (C.2.2.2.2.2.2.1 _ q3_208) (dq dt_J6_bitCount_0f7a4 4 rfl) ?_
  refine lv_iand hx hb (dq dt_J6_bitCount_0f7a4 5 rfl) ?_
  refine lv_isub hx hb (dq dt_J6_bitCount_0f7a4 6 rfl) ?_
  obtain ⟨v1, ev1, hF⟩ := bd_ hF
  refine kNmI ev1 ?_
  refine lv_istore_n (lv' := [(0, .int v1)]) hx hb (dq dt_J6_bitCount_0f7a4 7 rfl) rfl hl (by decide) rfl (fun ls hl => ?_)
  refine lv_iload_n hx hb (dq dt_J6_bitCount_0f7a4 8 rfl) rfl (lv_at hl 0 rfl) ?_
  refine lv_ldcw (v := (858993459 : Int32)) hx hb C.2.2.2.2.2.1 (C.2.2.2.2.2.2.1 _ q3_209) (dq dt_J6_bitCount_0f7a4 9 rfl) ?_
  refine lv_iand hx hb (dq dt_J6_bitCount_0f7a4 10 rfl) ?_
  refine lv_iload_n hx hb (dq dt_J6_bitCount_0f7a4 11 rfl) rfl (lv_at hl 0 rfl) ?_
  refine lv_iconst (v := (2 : Int32)) hx hb (dq dt_J6_bitCount_0f7a4 12 rfl) (by decide) ?_
  refine lv_iushr (v := (v1.toUInt32 >>> ((2 : Int32).toUInt32 &&& Int32.toUInt32 31)).toInt32) hx hb (dq dt_J6_bitCount_0f7a4 13 rfl) rfl ?_
  refine lv_ldcw (v := (858993459 : Int32)) hx hb C.2.2.2.2.2.1 (C.2.2.2.2.2.2.1 _ q3_209) (dq dt_J6_bitCount_0f7a4 14 rfl) ?_
  refine lv_iand hx hb (dq dt_J6_bitCount_0f7a4 15 rfl) ?_
  refine lv_iadd hx hb (dq dt_J6_bitCount_0f7a4 16 rfl) ?_
  obtain ⟨v2, ev2, hF⟩ := bd_ hF
  refine kNmI ev2 ?_
  refine lv_istore_n (lv' := [(0, .int v2)]) hx hb (dq dt_J6_bitCount_0f7a4 17 rfl) rfl hl (by decide) rfl (fun ls hl => ?_)
  refine lv_iload_n hx hb (dq dt_J6_bitCount_0f7a4 18 rfl) rfl (lv_at hl 0 rfl) ?_
  refine lv_iload_n hx hb (dq dt_J6_bitCount_0f7a4 19 rfl) rfl (lv_at hl 0 rfl) ?_
  refine lv_iconst (v := (4 : Int32)) hx hb (dq dt_J6_bitCount_0f7a4 20 rfl) (by decide) ?_
  refine lv_iushr (v := (v2.toUInt32 >>> ((4 : Int32).toUInt32 &&& Int32.toUInt32 31)).toInt32) hx hb (dq dt_J6_bitCount_0f7a4 21 rfl) rfl ?_
  refine lv_iadd hx hb (dq dt_J6_bitCount_0f7a4 22 rfl) ?_
  refine lv_ldcw (v := (252645135 : Int32)) hx hb C.2.2.2.2.2.1 (C.2.2.2.2.2.2.1 _ q3_210) (dq dt_J6_bitCount_0f7a4 23 rfl) ?_
  refine lv_iand hx hb (dq dt_J6_bitCount_0f7a4 24 rfl) ?_
  obtain ⟨v3, ev3, hF⟩ := bd_ hF
  refine kNmI ev3 ?_
  refine lv_istore_n (lv' := [(0, .int v3)]) hx hb (dq dt_J6_bitCount_0f7a4 25 rfl) rfl hl (by decide) rfl (fun ls hl => ?_)
  refine lv_iload_n hx hb (dq dt_J6_bitCount_0f7a4 26 rfl) rfl (lv_at hl 0 rfl) ?_
  refine lv_iload_n hx hb (dq dt_J6_bitCount_0f7a4 27 rfl) rfl (lv_at hl 0 rfl) ?_
  refine lv_bipush (v := (8 : Int32)) hx hb (dq dt_J6_bitCount_0f7a4 28 rfl) (by decide) ?_
  refine lv_iushr (v := (v3.toUInt32 >>> ((8 : Int32).toUInt32 &&& Int32.toUInt32 31)).toInt32) hx hb (dq dt_J6_bitCount_0f7a4 29 rfl) rfl ?_
  refine lv_iadd hx hb (dq dt_J6_bitCount_0f7a4 30 rfl) ?_
  obtain ⟨v4, ev4, hF⟩ := bd_ hF
  refine kNmI ev4 ?_
  refine lv_istore_n (lv' := [(0, .int v4)]) hx hb (dq dt_J6_bitCount_0f7a4 31 rfl) rfl hl (by decide) rfl (fun ls hl => ?_)
  refine lv_iload_n hx hb (dq dt_J6_bitCount_0f7a4 32 rfl) rfl (lv_at hl 0 rfl) ?_
  refine lv_iload_n hx hb (dq dt_J6_bitCount_0f7a4 33 rfl) rfl (lv_at hl 0 rfl) ?_
  refine lv_bipush (v := (16 : Int32)) hx hb (dq dt_J6_bitCount_0f7a4 34 rfl) (by decide) ?_
  refine lv_iushr (v := (v4.toUInt32 >>> ((16 : Int32).toUInt32 &&& Int32.toUInt32 31)).toInt32) hx hb (dq dt_J6_bitCount_0f7a4 35 rfl) rfl ?_
  refine lv_iadd hx hb (dq dt_J6_bitCount_0f7a4 36 rfl) ?_
  obtain ⟨v5, ev5, hF⟩ := bd_ hF
  refine kNmI ev5 ?_
  refine lv_istore_n (lv' := [(0, .int v5)]) hx hb (dq dt_J6_bitCount_0f7a4 37 rfl) rfl hl (by decide) rfl (fun ls hl => ?_)
  refine lv_iload_n hx hb (dq dt_J6_bitCount_0f7a4 38 rfl) rfl (lv_at hl 0 rfl) ?_
  refine lv_bipush (v := (63 : Int32)) hx hb (dq dt_J6_bitCount_0f7a4 39 rfl) (by decide) ?_
  refine lv_iand hx hb (dq dt_J6_bitCount_0f7a4 40 rfl) ?_
  cases hF
  exact kRetI hQ C hw (dq dt_J6_bitCount_0f7a4 41 rfl)
def F_X1_heardTogether (t_children : Int32) (f_heardInTime : Nat → Int32) (p1 : Int32) : Option (Int32) :=
  zl2 (fun x1 x2 ag3 => if t_children ≤ x2 then (some x1) else (zc1 (F_X8_hasBit p1 x2) (fun v5 => zj1 (fun y7 => bd (x1 ||| y7) (fun v9 => bd (x2 + (1 : Int32)) (fun v10 => ag3 v9 v10))) (fun K8 => if v5 = 0 then (K8 (0 : Int32)) else (rd 5 f_heardInTime x2 (fun v12 => K8 v12)))))) FU (0 : Int32) (0 : Int32)
abbrev rm_X1_heardTogether : Room := { frames := 1, cells := 0, slots := 0, locals := 21 }
theorem kd_X1_heardTogether : yX1_heardTogether.cls = RX1 ∧ yX1_heardTogether.cls ≠ "java/lang/invoke/MethodHandle" ∧ yX1_heardTogether.cls ≠ "java/lang/invoke/VarHandle" ∧ (parseMethodDescriptor yX1_heardTogether.desc).map (fun d => d.parameters.length) = some 1 := by decide +kernel
set_option maxRecDepth 100000 in
set_option maxHeartbeats 4000000 in
theorem A_X1_heardTogether (l : Launch) (D : va_G) (cB cI cJ cZ : ClassId) (ad : (Nat → Nat) × (Nat → Nat)) (a_t a_t_tides a_t_seepYard a_t_seepSize a_t_growth a_t_level a_t_kind a_t_childYard a_t_pace a_t_ear a_f a_n a_h a_f_breakHour a_f_heardInTime : Nat) (t_yards : Int32) (t_seeps : Int32) (t_children : Int32) (f_heardInTime : Nat → Int32) (p1 : Int32) (r : Int32) (hF : F_X1_heardTogether t_children f_heardInTime p1 = some r) : kM l yX1_heardTogether (Cond.code yX1_heardTogether cX1_heardTogether 4 (some .int) :: W0) rm_X1_heardTogether D (kT cB cI cJ cZ) ad [.ref a_f, .int p1] [(a_t, .inr (7, [.int t_yards, .ref a_t_tides, .int t_seeps, .ref a_t_seepYard, .ref a_t_seepSize, .ref a_t_growth, .ref a_t_level, .int t_children, .ref a_t_kind, .ref a_t_childYard, .ref a_t_pace, .ref a_t_ear])), (a_f, .inr (1, [.ref a_t, .ref a_n, .ref a_h, .ref a_f_breakHour, .ref a_f_heardInTime])), (a_f_heardInTime, .inl (cI, 5, .inl f_heardInTime))] (some (.int r)) [(a_t, .inr (7, [.int t_yards, .ref a_t_tides, .int t_seeps, .ref a_t_seepYard, .ref a_t_seepSize, .ref a_t_growth, .ref a_t_level, .int t_children, .ref a_t_kind, .ref a_t_childYard, .ref a_t_pace, .ref a_t_ear])), (a_f, .inr (1, [.ref a_t, .ref a_n, .ref a_h, .ref a_f_breakHour, .ref a_f_heardInTime])), (a_f_heardInTime, .inl (cI, 5, .inl f_heardInTime))] := by
  unfold F_X1_heardTogether at hF
  refine kStart (lv := [(0, .ref a_f), (1, .int p1)]) (own := "DikeWatch$Foretold") (plainFor_of_name (by decide)) rfl (Nat.le_of_ble_eq_true rfl) rfl ?_
  intro p e s m args below meth c A Q ls hQ C hx hb hw hl
  refine lv_iconst (v := (0 : Int32)) hx hb (dq dt_X1_heardTogether 0 rfl) (by decide) ?_
  refine lv_istore_n (lv' := [(2, .int (0 : Int32)), (0, .ref a_f), (1, .int p1)]) hx hb (dq dt_X1_heardTogether 1 rfl) rfl hl (by decide) rfl (fun ls hl => ?_)
  refine lv_iconst (v := (0 : Int32)) hx hb (dq dt_X1_heardTogether 2 rfl) (by decide) ?_
  refine lv_istore_n (lv' := [(3, .int (0 : Int32)), (2, .int (0 : Int32)), (0, .ref a_f), (1, .int p1)]) hx hb (dq dt_X1_heardTogether 3 rfl) rfl hl (by decide) rfl (fun ls hl => ?_)
  obtain ⟨K3, hK03, hK3, hF⟩ := zl2_ hF
  have L3 : ∀ (n : Nat) (x1 : Int32) (x2 : Int32), K3 n x1 x2 = some r → ∀ (H : Heap) (locs : List Loc) (ls : Array Slot), kW D A s.heap [(a_t, .inr (7, [.int t_yards, .ref a_t_tides, .int t_seeps, .ref a_t_seepYard, .ref a_t_seepSize, .ref a_t_growth, .ref a_t_level, .int t_children, .ref a_t_kind, .ref a_t_childYard, .ref a_t_pace, .ref a_t_ear])), (a_f, .inr (1, [.ref a_t, .ref a_n, .ref a_h, .ref a_f_breakHour, .ref a_f_heardInTime])), (a_f_heardInTime, .inl (cI, 5, .inl f_heardInTime))] H locs → lv_has ls 4 [(0, .ref a_f), (1, .int p1), (2, .int x1), (3, .int x2)] → W p l e rm_X1_heardTogether s m args below meth c H locs 0 0 Q (F0 m 4 ls []) := by
    intro n
    induction n with
    | zero => intro x1 x2 hF; exact (lp_no (hK03 x1 x2) hF).elim
    | succ n ih3 =>
      intro x1 x2 hF H locs ls hw hl
      replace hF := hK3 n x1 x2 hF
      refine lv_iload_n hx hb (dq dt_X1_heardTogether 4 rfl) rfl (lv_at hl 3 rfl) ?_
      refine lv_aload_n hx hb (dq dt_X1_heardTogether 5 rfl) rfl (lv_at hl 0 rfl) ?_
      refine kGet (ci := 1) C in_X1 hw 1 rfl rfl 0 (by decide) (C.2.2.2.2.2.2.1 _ q1_154) rfl rfl (dq dt_X1_heardTogether 6 rfl) ?_
      refine kGet (ci := 7) C in_X7 hw 0 rfl rfl 7 (by decide) (C.2.2.2.2.2.2.1 _ q1_75) rfl rfl (dq dt_X1_heardTogether 7 rfl) ?_
      refine lv_icmp_ge (tgt := 42) hx hb (dq dt_X1_heardTogether 8 rfl) (by decide) (fun c4 => ?_) (fun c4 => ?_)
      · replace hF := if_t c4 hF
        refine lv_iload_n hx hb (dq dt_X1_heardTogether 24 rfl) rfl (lv_at hl 2 rfl) ?_
        cases hF
        exact kRetI hQ C hw (dq dt_X1_heardTogether 25 rfl)
      · replace hF := if_f c4 hF
        refine lv_iload_n hx hb (dq dt_X1_heardTogether 9 rfl) rfl (lv_at hl 2 rfl) ?_
        refine lv_iload_n hx hb (dq dt_X1_heardTogether 10 rfl) rfl (lv_at hl 1 rfl) ?_
        refine lv_iload_n hx hb (dq dt_X1_heardTogether 11 rfl) rfl (lv_at hl 3 rfl) ?_
        obtain ⟨v5, hr6, hF⟩ := zc1_ hF
        refine kCallSN C hw (A_X8_hasBit l D cB cI cJ cZ ad p1 x2 v5 hr6) ⟨va_cnB 2 C.2.2.2.2.2.2.1 (w0_all0 q3_18) rfl rfl rfl (C.2.2.2.2.2.2.2.2.1.1 _ (List.mem_of_getElem? (i := 9) rfl)) (C.2.2.2.2.2.2.1 _ q1_1) ke_X8_hasBit ⟨Nat.le_of_ble_eq_true rfl, Nat.le_of_ble_eq_true rfl⟩, (C.2.2.2.2.2.2.1 _ q3_17), trivial⟩ hl.1 rfl rfl rfl (Nat.le_of_ble_eq_true rfl) ⟨Nat.le_of_ble_eq_true rfl, Nat.le_of_ble_eq_true rfl⟩ (dq dt_X1_heardTogether 12 rfl) (fun H locs hw => ?_)
        obtain ⟨K8, hK8, hF⟩ := zj1_ hF
        have J8 : ∀ (y7 : Int32), K8 y7 = some r → ∀ (H : Heap) (locs : List Loc) (ls : Array Slot), kW D A s.heap [(a_t, .inr (7, [.int t_yards, .ref a_t_tides, .int t_seeps, .ref a_t_seepYard, .ref a_t_seepSize, .ref a_t_growth, .ref a_t_level, .int t_children, .ref a_t_kind, .ref a_t_childYard, .ref a_t_pace, .ref a_t_ear])), (a_f, .inr (1, [.ref a_t, .ref a_n, .ref a_h, .ref a_f_breakHour, .ref a_f_heardInTime])), (a_f_heardInTime, .inl (cI, 5, .inl f_heardInTime))] H locs → lv_has ls 4 [(0, .ref a_f), (1, .int p1), (3, .int x2)] → W p l e rm_X1_heardTogether s m args below meth c H locs 0 0 Q (F0 m 34 ls [.int y7, .int x1]) := by
          intro y7 hF H locs ls hw hl
          replace hF := hK8 y7 hF
          refine lv_ior hx hb (dq dt_X1_heardTogether 20 rfl) ?_
          obtain ⟨v9, ev9, hF⟩ := bd_ hF
          refine kNmI ev9 ?_
          refine lv_istore_n (lv' := [(2, .int v9), (0, .ref a_f), (1, .int p1), (3, .int x2)]) hx hb (dq dt_X1_heardTogether 21 rfl) rfl hl (by decide) rfl (fun ls hl => ?_)
          obtain ⟨v10, ev10, hF⟩ := bd_ hF
          refine lv_iinc (v := v10) (lv' := [(3, .int v10), (2, .int v9), (0, .ref a_f), (1, .int p1)]) hx hb (dq dt_X1_heardTogether 22 rfl) hl (k := 3) rfl ev10.symm (by decide) rfl (fun ls hl => ?_)
          refine lv_goto (tgt := 4) hx hb (dq dt_X1_heardTogether 23 rfl) (by decide) ?_
          exact ih3 v9 v10 hF _ _ _ hw (lv_sub hl [2, 3, 1, 0] rfl)
        refine lv_if_eq (tgt := 33) hx hb (dq dt_X1_heardTogether 13 rfl) (by decide) (fun c11 => ?_) (fun c11 => ?_)
        · replace hF := if_t c11 hF
          refine lv_iconst (v := (0 : Int32)) hx hb (dq dt_X1_heardTogether 19 rfl) (by decide) ?_
          exact J8 (0 : Int32) hF _ _ _ hw (lv_sub hl [0, 1, 3] rfl)
        · replace hF := if_f c11 hF
          refine lv_aload_n hx hb (dq dt_X1_heardTogether 14 rfl) rfl (lv_at hl 0 rfl) ?_
          refine kGet (ci := 1) C in_X1 hw 1 rfl rfl 4 (by decide) (C.2.2.2.2.2.2.1 _ q1_158) rfl rfl (dq dt_X1_heardTogether 15 rfl) ?_
          refine lv_iload_n hx hb (dq dt_X1_heardTogether 16 rfl) rfl (lv_at hl 3 rfl) ?_
          obtain ⟨v12, ev12, hi13, hF⟩ := rd_ hF
          refine kIald C hw 2 1 rfl rfl hi13 ev12 (dq dt_X1_heardTogether 17 rfl) ?_
          refine lv_goto (tgt := 34) hx hb (dq dt_X1_heardTogether 18 rfl) (by decide) ?_
          exact J8 v12 hF _ _ _ hw (lv_sub hl [0, 1, 3] rfl)
  exact L3 _ (0 : Int32) (0 : Int32) hF _ _ _ hw (lv_sub hl [2, 3, 1, 0] rfl)
def F_X1_leastWatch (t_yards : Int32) (t_seeps : Int32) (t_children : Int32) (t_tides : Nat → Int32) (t_seepYard : Nat → Int32) (t_growth : Nat → Int32) (t_level : Nat → Int32) (t_kind : Nat → Int32) (t_pace : Nat → Int32) (t_ear : Nat → Int32) (n_hours : Int32) (n_filled : Int32) (n_toLesser : Int32) (n_size : Nat → Int32) (n_yard : Nat → Int32) (n_oranges : Nat → Int32) (h_hours : Int32) (h_filled : Int32) (h_toLesser : Int32) (h_size : Nat → Int32) (h_yard : Nat → Int32) (h_oranges : Nat → Int32) (f_breakHour : Nat → Int32) (f_heardInTime : Nat → Int32) : Option (Int32 × Int32 × Int32 × Int32 × (Nat → Int32) × (Nat → Int32) × (Nat → Int32) × (Nat → Int32) × (Nat → Int32)) :=
  zc2 (F_X1_findBreaking t_seeps t_tides t_growth t_level n_hours n_filled n_size f_breakHour) (fun v1 g2 => zl8 (fun x4 h5 h6 h7 h8 h9 h10 h11 ag12 => if t_children ≤ x4 then (zl2 (fun x14 x15 ag16 => if ((1 : Int32) <<< (t_children &&& 31)) ≤ x15 then (some (x14, h5, h6, h7, h8, h9, h10, g2, h11)) else (zj1 (fun y18 => if y18 = 0 then (bd (x15 + (1 : Int32)) (fun v21 => ag16 x14 v21)) else (zc1 (F_X1_heardTogether t_children h11 x15) (fun v22 => if (v1 &&& (v22 ^^^ (-1 : Int32))) = 0 then (bd (x15 + (1 : Int32)) (fun v26 => ag16 x15 v26)) else (bd (x15 + (1 : Int32)) (fun v25 => ag16 x14 v25))))) (fun K19 => if x14 = (-1 : Int32) then (K19 (1 : Int32)) else (zc1 (F_J6_bitCount_0f7a4 x15) (fun v28 => zc1 (F_J6_bitCount_0f7a4 x14) (fun v30 => if v30 ≤ v28 then (K19 (0 : Int32)) else (K19 (1 : Int32)))))))) FU (-1 : Int32) (0 : Int32)) else (zc7 (F_X1_findHeardInTime t_yards t_seeps t_seepYard t_kind t_pace t_ear n_hours n_filled n_toLesser n_size n_yard n_oranges h5 h6 h7 h8 h9 h10 g2 x4 v1) (fun v33 g34 g35 g36 g37 g38 g39 => wr 5 x4 (upd h11 (x4).toNatClampNeg v33) (fun g41 => bd (x4 + (1 : Int32)) (fun v43 => ag12 v43 g34 g35 g36 g37 g38 g39 g41))))) FU (0 : Int32) h_hours h_filled h_toLesser h_size h_yard h_oranges f_heardInTime)
abbrev rm_X1_leastWatch : Room := { frames := 5, cells := 0, slots := 0, locals := 134 }
theorem kd_X1_leastWatch : yX1_leastWatch.cls = RX1 ∧ yX1_leastWatch.cls ≠ "java/lang/invoke/MethodHandle" ∧ yX1_leastWatch.cls ≠ "java/lang/invoke/VarHandle" ∧ (parseMethodDescriptor yX1_leastWatch.desc).map (fun d => d.parameters.length) = some 0 := by decide +kernel
set_option maxRecDepth 100000 in
set_option maxHeartbeats 4000000 in
theorem A_X1_leastWatch (l : Launch) (D : va_G) (cB cI cJ cZ : ClassId) (ad : (Nat → Nat) × (Nat → Nat)) (a_t a_t_tides a_t_seepYard a_t_seepSize a_t_growth a_t_level a_t_kind a_t_childYard a_t_pace a_t_ear a_n a_n_size a_n_yard a_n_oranges a_h a_h_size a_h_yard a_h_oranges a_f a_f_breakHour a_f_heardInTime : Nat) (t_yards : Int32) (t_seeps : Int32) (t_children : Int32) (t_tides : Nat → Int32) (t_seepYard : Nat → Int32) (t_growth : Nat → Int32) (t_level : Nat → Int32) (t_kind : Nat → Int32) (t_pace : Nat → Int32) (t_ear : Nat → Int32) (n_hours : Int32) (n_filled : Int32) (n_toLesser : Int32) (n_size : Nat → Int32) (n_yard : Nat → Int32) (n_oranges : Nat → Int32) (h_hours : Int32) (h_filled : Int32) (h_toLesser : Int32) (h_size : Nat → Int32) (h_yard : Nat → Int32) (h_oranges : Nat → Int32) (f_breakHour : Nat → Int32) (f_heardInTime : Nat → Int32) (r : Int32) (h_hours' : Int32) (h_filled' : Int32) (h_toLesser' : Int32) (h_size' : Nat → Int32) (h_yard' : Nat → Int32) (h_oranges' : Nat → Int32) (f_breakHour' : Nat → Int32) (f_heardInTime' : Nat → Int32) (hF : F_X1_leastWatch t_yards t_seeps t_children t_tides t_seepYard t_growth t_level t_kind t_pace t_ear n_hours n_filled n_toLesser n_size n_yard n_oranges h_hours h_filled h_toLesser h_size h_yard h_oranges f_breakHour f_heardInTime = some (r, h_hours', h_filled', h_toLesser', h_size', h_yard', h_oranges', f_breakHour', f_heardInTime')) : kM l yX1_leastWatch (Cond.code yX1_leastWatch cX1_leastWatch 5 (some .int) :: W0) rm_X1_leastWatch D (kT cB cI cJ cZ) ad [.ref a_f] [(a_t, .inr (7, [.int t_yards, .ref a_t_tides, .int t_seeps, .ref a_t_seepYard, .ref a_t_seepSize, .ref a_t_growth, .ref a_t_level, .int t_children, .ref a_t_kind, .ref a_t_childYard, .ref a_t_pace, .ref a_t_ear])), (a_t_tides, .inl (cI, 12, .inl t_tides)), (a_t_seepYard, .inl (cI, 6, .inl t_seepYard)), (a_t_growth, .inl (cI, 6, .inl t_growth)), (a_t_level, .inl (cI, 6, .inl t_level)), (a_t_kind, .inl (cI, 5, .inl t_kind)), (a_t_pace, .inl (cI, 5, .inl t_pace)), (a_t_ear, .inl (cI, 5, .inl t_ear)), (a_n, .inr (3, [.ref a_t, .int n_hours, .int n_filled, .ref a_n_size, .ref a_n_yard, .int n_toLesser, .ref a_n_oranges])), (a_n_size, .inl (cI, 6, .inl n_size)), (a_n_yard, .inl (cI, 5, .inl n_yard)), (a_n_oranges, .inl (cI, 5, .inl n_oranges)), (a_h, .inr (3, [.ref a_t, .int h_hours, .int h_filled, .ref a_h_size, .ref a_h_yard, .int h_toLesser, .ref a_h_oranges])), (a_h_size, .inl (cI, 6, .inl h_size)), (a_h_yard, .inl (cI, 5, .inl h_yard)), (a_h_oranges, .inl (cI, 5, .inl h_oranges)), (a_f, .inr (1, [.ref a_t, .ref a_n, .ref a_h, .ref a_f_breakHour, .ref a_f_heardInTime])), (a_f_breakHour, .inl (cI, 6, .inl f_breakHour)), (a_f_heardInTime, .inl (cI, 5, .inl f_heardInTime))] (some (.int r)) [(a_t, .inr (7, [.int t_yards, .ref a_t_tides, .int t_seeps, .ref a_t_seepYard, .ref a_t_seepSize, .ref a_t_growth, .ref a_t_level, .int t_children, .ref a_t_kind, .ref a_t_childYard, .ref a_t_pace, .ref a_t_ear])), (a_t_tides, .inl (cI, 12, .inl t_tides)), (a_t_seepYard, .inl (cI, 6, .inl t_seepYard)), (a_t_growth, .inl (cI, 6, .inl t_growth)), (a_t_level, .inl (cI, 6, .inl t_level)), (a_t_kind, .inl (cI, 5, .inl t_kind)), (a_t_pace, .inl (cI, 5, .inl t_pace)), (a_t_ear, .inl (cI, 5, .inl t_ear)), (a_n, .inr (3, [.ref a_t, .int n_hours, .int n_filled, .ref a_n_size, .ref a_n_yard, .int n_toLesser, .ref a_n_oranges])), (a_n_size, .inl (cI, 6, .inl n_size)), (a_n_yard, .inl (cI, 5, .inl n_yard)), (a_n_oranges, .inl (cI, 5, .inl n_oranges)), (a_h, .inr (3, [.ref a_t, .int (h_hours'), .int (h_filled'), .ref a_h_size, .ref a_h_yard, .int (h_toLesser'), .ref a_h_oranges])), (a_h_size, .inl (cI, 6, .inl (h_size'))), (a_h_yard, .inl (cI, 5, .inl (h_yard'))), (a_h_oranges, .inl (cI, 5, .inl (h_oranges'))), (a_f, .inr (1, [.ref a_t, .ref a_n, .ref a_h, .ref a_f_breakHour, .ref a_f_heardInTime])), (a_f_breakHour, .inl (cI, 6, .inl (f_breakHour'))), (a_f_heardInTime, .inl (cI, 5, .inl (f_heardInTime')))] := by
  unfold F_X1_leastWatch at hF
  refine kStart (lv := [(0, .ref a_f)]) (own := "DikeWatch$Foretold") (plainFor_of_name (by decide)) rfl (Nat.le_of_ble_eq_true rfl) rfl ?_
  intro p e s m args below meth c A Q ls hQ C hx hb hw hl
  refine lv_aload_n hx hb (dq dt_X1_leastWatch 0 rfl) rfl (lv_at hl 0 rfl) ?_
  obtain ⟨v1, g2, hr3, hF⟩ := zc2_ hF
  refine kCallV (ws2 := [(a_t, .inr (7, [.int t_yards, .ref a_t_tides, .int t_seeps, .ref a_t_seepYard, .ref a_t_seepSize, .ref a_t_growth, .ref a_t_level, .int t_children, .ref a_t_kind, .ref a_t_childYard, .ref a_t_pace, .ref a_t_ear])), (a_t_tides, .inl (cI, 12, .inl t_tides)), (a_t_seepYard, .inl (cI, 6, .inl t_seepYard)), (a_t_growth, .inl (cI, 6, .inl t_growth)), (a_t_level, .inl (cI, 6, .inl t_level)), (a_t_kind, .inl (cI, 5, .inl t_kind)), (a_t_pace, .inl (cI, 5, .inl t_pace)), (a_t_ear, .inl (cI, 5, .inl t_ear)), (a_n, .inr (3, [.ref a_t, .int n_hours, .int n_filled, .ref a_n_size, .ref a_n_yard, .int n_toLesser, .ref a_n_oranges])), (a_n_size, .inl (cI, 6, .inl n_size)), (a_n_yard, .inl (cI, 5, .inl n_yard)), (a_n_oranges, .inl (cI, 5, .inl n_oranges)), (a_h, .inr (3, [.ref a_t, .int h_hours, .int h_filled, .ref a_h_size, .ref a_h_yard, .int h_toLesser, .ref a_h_oranges])), (a_h_size, .inl (cI, 6, .inl h_size)), (a_h_yard, .inl (cI, 5, .inl h_yard)), (a_h_oranges, .inl (cI, 5, .inl h_oranges)), (a_f, .inr (1, [.ref a_t, .ref a_n, .ref a_h, .ref a_f_breakHour, .ref a_f_heardInTime])), (a_f_breakHour, .inl (cI, 6, .inl g2)), (a_f_heardInTime, .inl (cI, 5, .inl f_heardInTime))]) C hw (A_X1_findBreaking l D cB cI cJ cZ ad a_t a_t_tides a_t_seepYard a_t_seepSize a_t_growth a_t_level a_t_kind a_t_childYard a_t_pace a_t_ear a_n a_n_size a_n_yard a_n_oranges a_f a_h a_f_breakHour a_f_heardInTime t_yards t_seeps t_children t_tides t_growth t_level n_hours n_filled n_toLesser n_size f_breakHour v1 g2 hr3) (cwV 0 C.2.2.2.2.2.2.1 (w0_V0 q3_177 q3_174 q3_176 (ws0 11 rfl) q1_5) rfl rfl rfl kd_X1_findBreaking ⟨Nat.le_of_ble_eq_true rfl, Nat.le_of_ble_eq_true rfl⟩) [0, 1, 3, 4, 8, 9, 16, 17] rfl rfl rfl rfl 16 1 rfl rfl hl.1 rfl rfl rfl (Nat.le_of_ble_eq_true rfl) ⟨Nat.le_of_ble_eq_true rfl, Nat.le_of_ble_eq_true rfl⟩ (dq dt_X1_leastWatch 1 rfl) (fun H locs hw => ?_)
  refine lv_istore_n (lv' := [(1, .int v1), (0, .ref a_f)]) hx hb (dq dt_X1_leastWatch 2 rfl) rfl hl (by decide) rfl (fun ls hl => ?_)
  refine lv_iconst (v := (0 : Int32)) hx hb (dq dt_X1_leastWatch 3 rfl) (by decide) ?_
  refine lv_istore_n (lv' := [(2, .int (0 : Int32)), (1, .int v1), (0, .ref a_f)]) hx hb (dq dt_X1_leastWatch 4 rfl) rfl hl (by decide) rfl (fun ls hl => ?_)
  obtain ⟨K12, hK012, hK12, hF⟩ := zl8_ hF
  have L12 : ∀ (n : Nat) (x4 : Int32) (h5 : Int32) (h6 : Int32) (h7 : Int32) (h8 : Nat → Int32) (h9 : Nat → Int32) (h10 : Nat → Int32) (h11 : Nat → Int32), K12 n x4 h5 h6 h7 h8 h9 h10 h11 = some (r, h_hours', h_filled', h_toLesser', h_size', h_yard', h_oranges', f_breakHour', f_heardInTime') → ∀ (H : Heap) (locs : List Loc) (ls : Array Slot), kW D A s.heap [(a_t, .inr (7, [.int t_yards, .ref a_t_tides, .int t_seeps, .ref a_t_seepYard, .ref a_t_seepSize, .ref a_t_growth, .ref a_t_level, .int t_children, .ref a_t_kind, .ref a_t_childYard, .ref a_t_pace, .ref a_t_ear])), (a_t_tides, .inl (cI, 12, .inl t_tides)), (a_t_seepYard, .inl (cI, 6, .inl t_seepYard)), (a_t_growth, .inl (cI, 6, .inl t_growth)), (a_t_level, .inl (cI, 6, .inl t_level)), (a_t_kind, .inl (cI, 5, .inl t_kind)), (a_t_pace, .inl (cI, 5, .inl t_pace)), (a_t_ear, .inl (cI, 5, .inl t_ear)), (a_n, .inr (3, [.ref a_t, .int n_hours, .int n_filled, .ref a_n_size, .ref a_n_yard, .int n_toLesser, .ref a_n_oranges])), (a_n_size, .inl (cI, 6, .inl n_size)), (a_n_yard, .inl (cI, 5, .inl n_yard)), (a_n_oranges, .inl (cI, 5, .inl n_oranges)), (a_h, .inr (3, [.ref a_t, .int h5, .int h6, .ref a_h_size, .ref a_h_yard, .int h7, .ref a_h_oranges])), (a_h_size, .inl (cI, 6, .inl h8)), (a_h_yard, .inl (cI, 5, .inl h9)), (a_h_oranges, .inl (cI, 5, .inl h10)), (a_f, .inr (1, [.ref a_t, .ref a_n, .ref a_h, .ref a_f_breakHour, .ref a_f_heardInTime])), (a_f_breakHour, .inl (cI, 6, .inl g2)), (a_f_heardInTime, .inl (cI, 5, .inl h11))] H locs → lv_has ls 5 [(0, .ref a_f), (1, .int v1), (2, .int x4)] → W p l e rm_X1_leastWatch s m args below meth c H locs 0 0 Q (F0 m 7 ls []) := by
    intro n
    induction n with
    | zero => intro x4 h5 h6 h7 h8 h9 h10 h11 hF; exact (lp_no (hK012 x4 h5 h6 h7 h8 h9 h10 h11) hF).elim
    | succ n ih12 =>
      intro x4 h5 h6 h7 h8 h9 h10 h11 hF H locs ls hw hl
      replace hF := hK12 n x4 h5 h6 h7 h8 h9 h10 h11 hF
      refine lv_iload_n hx hb (dq dt_X1_leastWatch 5 rfl) rfl (lv_at hl 2 rfl) ?_
      refine lv_aload_n hx hb (dq dt_X1_leastWatch 6 rfl) rfl (lv_at hl 0 rfl) ?_
      refine kGet (ci := 1) C in_X1 hw 16 rfl rfl 0 (by decide) (C.2.2.2.2.2.2.1 _ q1_154) rfl rfl (dq dt_X1_leastWatch 7 rfl) ?_
      refine kGet (ci := 7) C in_X7 hw 0 rfl rfl 7 (by decide) (C.2.2.2.2.2.2.1 _ q1_75) rfl rfl (dq dt_X1_leastWatch 8 rfl) ?_
      refine lv_icmp_ge (tgt := 36) hx hb (dq dt_X1_leastWatch 9 rfl) (by decide) (fun c13 => ?_) (fun c13 => ?_)
      · replace hF := if_t c13 hF
        refine lv_iconst (v := (-1 : Int32)) hx hb (dq dt_X1_leastWatch 20 rfl) (by decide) ?_
        refine lv_istore_n (lv' := [(2, .int (-1 : Int32)), (0, .ref a_f), (1, .int v1)]) hx hb (dq dt_X1_leastWatch 21 rfl) rfl hl (by decide) rfl (fun ls hl => ?_)
        refine lv_iconst (v := (0 : Int32)) hx hb (dq dt_X1_leastWatch 22 rfl) (by decide) ?_
        refine lv_istore_n (lv' := [(3, .int (0 : Int32)), (2, .int (-1 : Int32)), (0, .ref a_f), (1, .int v1)]) hx hb (dq dt_X1_leastWatch 23 rfl) rfl hl (by decide) rfl (fun ls hl => ?_)
        obtain ⟨K16, hK016, hK16, hF⟩ := zl2_ hF
        have L16 : ∀ (n : Nat) (x14 : Int32) (x15 : Int32), K16 n x14 x15 = some (r, h_hours', h_filled', h_toLesser', h_size', h_yard', h_oranges', f_breakHour', f_heardInTime') → ∀ (H : Heap) (locs : List Loc) (ls : Array Slot), kW D A s.heap [(a_t, .inr (7, [.int t_yards, .ref a_t_tides, .int t_seeps, .ref a_t_seepYard, .ref a_t_seepSize, .ref a_t_growth, .ref a_t_level, .int t_children, .ref a_t_kind, .ref a_t_childYard, .ref a_t_pace, .ref a_t_ear])), (a_t_tides, .inl (cI, 12, .inl t_tides)), (a_t_seepYard, .inl (cI, 6, .inl t_seepYard)), (a_t_growth, .inl (cI, 6, .inl t_growth)), (a_t_level, .inl (cI, 6, .inl t_level)), (a_t_kind, .inl (cI, 5, .inl t_kind)), (a_t_pace, .inl (cI, 5, .inl t_pace)), (a_t_ear, .inl (cI, 5, .inl t_ear)), (a_n, .inr (3, [.ref a_t, .int n_hours, .int n_filled, .ref a_n_size, .ref a_n_yard, .int n_toLesser, .ref a_n_oranges])), (a_n_size, .inl (cI, 6, .inl n_size)), (a_n_yard, .inl (cI, 5, .inl n_yard)), (a_n_oranges, .inl (cI, 5, .inl n_oranges)), (a_h, .inr (3, [.ref a_t, .int h5, .int h6, .ref a_h_size, .ref a_h_yard, .int h7, .ref a_h_oranges])), (a_h_size, .inl (cI, 6, .inl h8)), (a_h_yard, .inl (cI, 5, .inl h9)), (a_h_oranges, .inl (cI, 5, .inl h10)), (a_f, .inr (1, [.ref a_t, .ref a_n, .ref a_h, .ref a_f_breakHour, .ref a_f_heardInTime])), (a_f_breakHour, .inl (cI, 6, .inl g2)), (a_f_heardInTime, .inl (cI, 5, .inl h11))] H locs → lv_has ls 5 [(0, .ref a_f), (1, .int v1), (2, .int x14), (3, .int x15)] → W p l e rm_X1_leastWatch s m args below meth c H locs 0 0 Q (F0 m 40 ls []) := by
          intro n
          induction n with
          | zero => intro x14 x15 hF; exact (lp_no (hK016 x14 x15) hF).elim
          | succ n ih16 =>
            intro x14 x15 hF H locs ls hw hl
            replace hF := hK16 n x14 x15 hF
            refine lv_iload_n hx hb (dq dt_X1_leastWatch 24 rfl) rfl (lv_at hl 3 rfl) ?_
            refine lv_iconst (v := (1 : Int32)) hx hb (dq dt_X1_leastWatch 25 rfl) (by decide) ?_
            refine lv_aload_n hx hb (dq dt_X1_leastWatch 26 rfl) rfl (lv_at hl 0 rfl) ?_
            refine kGet (ci := 1) C in_X1 hw 16 rfl rfl 0 (by decide) (C.2.2.2.2.2.2.1 _ q1_154) rfl rfl (dq dt_X1_leastWatch 27 rfl) ?_
            refine kGet (ci := 7) C in_X7 hw 0 rfl rfl 7 (by decide) (C.2.2.2.2.2.2.1 _ q1_75) rfl rfl (dq dt_X1_leastWatch 28 rfl) ?_
            refine lv_ishl hx hb (dq dt_X1_leastWatch 29 rfl) ?_
            refine lv_icmp_ge (tgt := 101) hx hb (dq dt_X1_leastWatch 30 rfl) (by decide) (fun c17 => ?_) (fun c17 => ?_)
            · replace hF := if_t c17 hF
              refine lv_iload_n hx hb (dq dt_X1_leastWatch 57 rfl) rfl (lv_at hl 2 rfl) ?_
              cases hF
              exact kRetI hQ C hw (dq dt_X1_leastWatch 58 rfl)
            · replace hF := if_f c17 hF
              refine lv_iload_n hx hb (dq dt_X1_leastWatch 31 rfl) rfl (lv_at hl 2 rfl) ?_
              refine lv_iconst (v := (-1 : Int32)) hx hb (dq dt_X1_leastWatch 32 rfl) (by decide) ?_
              obtain ⟨K19, hK19, hF⟩ := zj1_ hF
              have J19 : ∀ (y18 : Int32), K19 y18 = some (r, h_hours', h_filled', h_toLesser', h_size', h_yard', h_oranges', f_breakHour', f_heardInTime') → ∀ (H : Heap) (locs : List Loc) (ls : Array Slot), kW D A s.heap [(a_t, .inr (7, [.int t_yards, .ref a_t_tides, .int t_seeps, .ref a_t_seepYard, .ref a_t_seepSize, .ref a_t_growth, .ref a_t_level, .int t_children, .ref a_t_kind, .ref a_t_childYard, .ref a_t_pace, .ref a_t_ear])), (a_t_tides, .inl (cI, 12, .inl t_tides)), (a_t_seepYard, .inl (cI, 6, .inl t_seepYard)), (a_t_growth, .inl (cI, 6, .inl t_growth)), (a_t_level, .inl (cI, 6, .inl t_level)), (a_t_kind, .inl (cI, 5, .inl t_kind)), (a_t_pace, .inl (cI, 5, .inl t_pace)), (a_t_ear, .inl (cI, 5, .inl t_ear)), (a_n, .inr (3, [.ref a_t, .int n_hours, .int n_filled, .ref a_n_size, .ref a_n_yard, .int n_toLesser, .ref a_n_oranges])), (a_n_size, .inl (cI, 6, .inl n_size)), (a_n_yard, .inl (cI, 5, .inl n_yard)), (a_n_oranges, .inl (cI, 5, .inl n_oranges)), (a_h, .inr (3, [.ref a_t, .int h5, .int h6, .ref a_h_size, .ref a_h_yard, .int h7, .ref a_h_oranges])), (a_h_size, .inl (cI, 6, .inl h8)), (a_h_yard, .inl (cI, 5, .inl h9)), (a_h_oranges, .inl (cI, 5, .inl h10)), (a_f, .inr (1, [.ref a_t, .ref a_n, .ref a_h, .ref a_f_breakHour, .ref a_f_heardInTime])), (a_f_breakHour, .inl (cI, 6, .inl g2)), (a_f_heardInTime, .inl (cI, 5, .inl h11))] H locs → lv_has ls 5 [(0, .ref a_f), (1, .int v1), (2, .int x14), (3, .int x15)] → W p l e rm_X1_leastWatch s m args below meth c H locs 0 0 Q (F0 m 74 ls [.int y18]) := by
                intro y18 hF H locs ls hw hl
                replace hF := hK19 y18 hF
                refine lv_istore (lv' := [(4, .int y18), (0, .ref a_f), (1, .int v1), (2, .int x14), (3, .int x15)]) hx hb (dq dt_X1_leastWatch 42 rfl) hl (by decide) rfl (fun ls hl => ?_)
                refine lv_iload hx hb (dq dt_X1_leastWatch 43 rfl) (lv_at hl 0 rfl) ?_
                refine lv_if_eq (tgt := 95) hx hb (dq dt_X1_leastWatch 44 rfl) (by decide) (fun c20 => ?_) (fun c20 => ?_)
                · replace hF := if_t c20 hF
                  obtain ⟨v21, ev21, hF⟩ := bd_ hF
                  refine lv_iinc (v := v21) (lv' := [(3, .int v21), (4, .int y18), (0, .ref a_f), (1, .int v1), (2, .int x14)]) hx hb (dq dt_X1_leastWatch 55 rfl) hl (k := 4) rfl ev21.symm (by decide) rfl (fun ls hl => ?_)
                  refine lv_goto (tgt := 40) hx hb (dq dt_X1_leastWatch 56 rfl) (by decide) ?_
                  exact ih16 x14 v21 hF _ _ _ hw (lv_sub hl [2, 3, 4, 0] rfl)
                · replace hF := if_f c20 hF
                  refine lv_iload_n hx hb (dq dt_X1_leastWatch 45 rfl) rfl (lv_at hl 2 rfl) ?_
                  refine lv_aload_n hx hb (dq dt_X1_leastWatch 46 rfl) rfl (lv_at hl 1 rfl) ?_
                  refine lv_iload_n hx hb (dq dt_X1_leastWatch 47 rfl) rfl (lv_at hl 4 rfl) ?_
                  obtain ⟨v22, hr23, hF⟩ := zc1_ hF
                  refine kCallVR C hw (A_X1_heardTogether l D cB cI cJ cZ ad a_t a_t_tides a_t_seepYard a_t_seepSize a_t_growth a_t_level a_t_kind a_t_childYard a_t_pace a_t_ear a_f a_n a_h a_f_breakHour a_f_heardInTime t_yards t_seeps t_children h11 x15 v22 hr23) (cwV 1 C.2.2.2.2.2.2.1 (w0_V0 q3_214 q3_211 q3_213 (ws0 15 rfl) q1_5) rfl rfl rfl kd_X1_heardTogether ⟨Nat.le_of_ble_eq_true rfl, Nat.le_of_ble_eq_true rfl⟩) [0, 16, 18] rfl rfl 16 1 rfl rfl hl.1 rfl rfl rfl (Nat.le_of_ble_eq_true rfl) ⟨Nat.le_of_ble_eq_true rfl, Nat.le_of_ble_eq_true rfl⟩ (dq dt_X1_leastWatch 48 rfl) (fun H locs hw => ?_)
                  refine lv_iconst (v := (-1 : Int32)) hx hb (dq dt_X1_leastWatch 49 rfl) (by decide) ?_
                  refine lv_ixor hx hb (dq dt_X1_leastWatch 50 rfl) ?_
                  refine lv_iand hx hb (dq dt_X1_leastWatch 51 rfl) ?_
                  refine lv_if_ne (tgt := 95) hx hb (dq dt_X1_leastWatch 52 rfl) (by decide) (fun c24 => ?_) (fun c24 => ?_)
                  · replace hF := if_f c24 hF
                    obtain ⟨v25, ev25, hF⟩ := bd_ hF
                    refine lv_iinc (v := v25) (lv' := [(3, .int v25), (4, .int y18), (0, .ref a_f), (1, .int v1), (2, .int x14)]) hx hb (dq dt_X1_leastWatch 55 rfl) hl (k := 4) rfl ev25.symm (by decide) rfl (fun ls hl => ?_)
                    refine lv_goto (tgt := 40) hx hb (dq dt_X1_leastWatch 56 rfl) (by decide) ?_
                    exact ih16 x14 v25 hF _ _ _ hw (lv_sub hl [2, 3, 4, 0] rfl)
                  · replace hF := if_t c24 hF
                    refine lv_iload_n hx hb (dq dt_X1_leastWatch 53 rfl) rfl (lv_at hl 4 rfl) ?_
                    refine lv_istore_n (lv' := [(2, .int x15), (4, .int y18), (0, .ref a_f), (1, .int v1), (3, .int x15)]) hx hb (dq dt_X1_leastWatch 54 rfl) rfl hl (by decide) rfl (fun ls hl => ?_)
                    obtain ⟨v26, ev26, hF⟩ := bd_ hF
                    refine lv_iinc (v := v26) (lv' := [(3, .int v26), (2, .int x15), (4, .int y18), (0, .ref a_f), (1, .int v1)]) hx hb (dq dt_X1_leastWatch 55 rfl) hl (k := 4) rfl ev26.symm (by decide) rfl (fun ls hl => ?_)
                    refine lv_goto (tgt := 40) hx hb (dq dt_X1_leastWatch 56 rfl) (by decide) ?_
                    exact ih16 x15 v26 hF _ _ _ hw (lv_sub hl [3, 4, 1, 0] rfl)
              refine lv_icmp_eq (tgt := 69) hx hb (dq dt_X1_leastWatch 33 rfl) (by decide) (fun c27 => ?_) (fun c27 => ?_)
              · replace hF := if_t c27 hF
                refine lv_iconst (v := (1 : Int32)) hx hb (dq dt_X1_leastWatch 39 rfl) (by decide) ?_
                refine lv_goto (tgt := 74) hx hb (dq dt_X1_leastWatch 40 rfl) (by decide) ?_
                exact J19 (1 : Int32) hF _ _ _ hw (lv_sub hl [0, 1, 2, 3] rfl)
              · replace hF := if_f c27 hF
                refine lv_iload_n hx hb (dq dt_X1_leastWatch 34 rfl) rfl (lv_at hl 3 rfl) ?_
                obtain ⟨v28, hr29, hF⟩ := zc1_ hF
                refine kCallSP C hw (A_J6_bitCount_0f7a4 l D cB cI cJ cZ ad x15 v28 hr29) (va_cwS 1 C.2.2.2.2.2.2.1 (w0_S0 q3_207 q3_205 q3_206 q1_18) rfl rfl rfl ke_J6_bitCount_0f7a4 ⟨Nat.le_of_ble_eq_true rfl, Nat.le_of_ble_eq_true rfl⟩) hl.1 rfl rfl rfl (Nat.le_of_ble_eq_true rfl) ⟨Nat.le_of_ble_eq_true rfl, Nat.le_of_ble_eq_true rfl⟩ (dq dt_X1_leastWatch 35 rfl) (fun H locs hw => ?_)
                refine lv_iload_n hx hb (dq dt_X1_leastWatch 36 rfl) rfl (lv_at hl 2 rfl) ?_
                obtain ⟨v30, hr31, hF⟩ := zc1_ hF
                refine kCallSP C hw (A_J6_bitCount_0f7a4 l D cB cI cJ cZ ad x14 v30 hr31) (va_cwS 1 C.2.2.2.2.2.2.1 (w0_S0 q3_207 q3_205 q3_206 q1_18) rfl rfl rfl ke_J6_bitCount_0f7a4 ⟨Nat.le_of_ble_eq_true rfl, Nat.le_of_ble_eq_true rfl⟩) hl.1 rfl rfl rfl (Nat.le_of_ble_eq_true rfl) ⟨Nat.le_of_ble_eq_true rfl, Nat.le_of_ble_eq_true rfl⟩ (dq dt_X1_leastWatch 37 rfl) (fun H locs hw => ?_)
                refine lv_icmp_ge (tgt := 73) hx hb (dq dt_X1_leastWatch 38 rfl) (by decide) (fun c32 => ?_) (fun c32 => ?_)
                · replace hF := if_t c32 hF
                  refine lv_iconst (v := (0 : Int32)) hx hb (dq dt_X1_leastWatch 41 rfl) (by decide) ?_
                  exact J19 (0 : Int32) hF _ _ _ hw (lv_sub hl [0, 1, 2, 3] rfl)
                · replace hF := if_f c32 hF
                  refine lv_iconst (v := (1 : Int32)) hx hb (dq dt_X1_leastWatch 39 rfl) (by decide) ?_
                  refine lv_goto (tgt := 74) hx hb (dq dt_X1_leastWatch 40 rfl) (by decide) ?_
                  exact J19 (1 : Int32) hF _ _ _ hw (lv_sub hl [0, 1, 2, 3] rfl)
        exact L16 _ (-1 : Int32) (0 : Int32) hF _ _ _ hw (lv_sub hl [2, 3, 1, 0] rfl)
      · replace hF := if_f c13 hF
        refine lv_aload_n hx hb (dq dt_X1_leastWatch 10 rfl) rfl (lv_at hl 0 rfl) ?_
        refine kGet (ci := 1) C in_X1 hw 16 rfl rfl 4 (by decide) (C.2.2.2.2.2.2.1 _ q1_158) rfl rfl (dq dt_X1_leastWatch 11 rfl) ?_
        refine lv_iload_n hx hb (dq dt_X1_leastWatch 12 rfl) rfl (lv_at hl 2 rfl) ?_
        refine lv_aload_n hx hb (dq dt_X1_leastWatch 13 rfl) rfl (lv_at hl 0 rfl) ?_
        refine lv_iload_n hx hb (dq dt_X1_leastWatch 14 rfl) rfl (lv_at hl 2 rfl) ?_
        refine lv_iload_n hx hb (dq dt_X1_leastWatch 15 rfl) rfl (lv_at hl 1 rfl) ?_
        obtain ⟨v33, g34, g35, g36, g37, g38, g39, hr40, hF⟩ := zc7_ hF
        refine kCallV (ws2 := [(a_t, .inr (7, [.int t_yards, .ref a_t_tides, .int t_seeps, .ref a_t_seepYard, .ref a_t_seepSize, .ref a_t_growth, .ref a_t_level, .int t_children, .ref a_t_kind, .ref a_t_childYard, .ref a_t_pace, .ref a_t_ear])), (a_t_tides, .inl (cI, 12, .inl t_tides)), (a_t_seepYard, .inl (cI, 6, .inl t_seepYard)), (a_t_growth, .inl (cI, 6, .inl t_growth)), (a_t_level, .inl (cI, 6, .inl t_level)), (a_t_kind, .inl (cI, 5, .inl t_kind)), (a_t_pace, .inl (cI, 5, .inl t_pace)), (a_t_ear, .inl (cI, 5, .inl t_ear)), (a_n, .inr (3, [.ref a_t, .int n_hours, .int n_filled, .ref a_n_size, .ref a_n_yard, .int n_toLesser, .ref a_n_oranges])), (a_n_size, .inl (cI, 6, .inl n_size)), (a_n_yard, .inl (cI, 5, .inl n_yard)), (a_n_oranges, .inl (cI, 5, .inl n_oranges)), (a_h, .inr (3, [.ref a_t, .int g34, .int g35, .ref a_h_size, .ref a_h_yard, .int g36, .ref a_h_oranges])), (a_h_size, .inl (cI, 6, .inl g37)), (a_h_yard, .inl (cI, 5, .inl g38)), (a_h_oranges, .inl (cI, 5, .inl g39)), (a_f, .inr (1, [.ref a_t, .ref a_n, .ref a_h, .ref a_f_breakHour, .ref a_f_heardInTime])), (a_f_breakHour, .inl (cI, 6, .inl g2)), (a_f_heardInTime, .inl (cI, 5, .inl h11))]) C hw (A_X1_findHeardInTime l D cB cI cJ cZ ad a_t a_t_tides a_t_seepYard a_t_seepSize a_t_growth a_t_level a_t_kind a_t_childYard a_t_pace a_t_ear a_n a_n_size a_n_yard a_n_oranges a_h a_h_size a_h_yard a_h_oranges a_f a_f_breakHour a_f_heardInTime t_yards t_seeps t_children t_seepYard t_kind t_pace t_ear n_hours n_filled n_toLesser n_size n_yard n_oranges h5 h6 h7 h8 h9 h10 g2 x4 v1 v33 g34 g35 g36 g37 g38 g39 hr40) (cwV 2 C.2.2.2.2.2.2.1 (w0_V0 q3_184 q3_181 q3_183 (ws0 12 rfl) q1_5) rfl rfl rfl kd_X1_findHeardInTime ⟨Nat.le_of_ble_eq_true rfl, Nat.le_of_ble_eq_true rfl⟩) [0, 2, 5, 6, 7, 8, 9, 10, 11, 12, 13, 14, 15, 16, 17] rfl rfl rfl rfl 16 1 rfl rfl hl.1 rfl rfl rfl (Nat.le_of_ble_eq_true rfl) ⟨Nat.le_of_ble_eq_true rfl, Nat.le_of_ble_eq_true rfl⟩ (dq dt_X1_leastWatch 16 rfl) (fun H locs hw => ?_)
        obtain ⟨g41, eg41, hi42, hF⟩ := wr_ hF
        refine kIast (ws' := [(a_t, .inr (7, [.int t_yards, .ref a_t_tides, .int t_seeps, .ref a_t_seepYard, .ref a_t_seepSize, .ref a_t_growth, .ref a_t_level, .int t_children, .ref a_t_kind, .ref a_t_childYard, .ref a_t_pace, .ref a_t_ear])), (a_t_tides, .inl (cI, 12, .inl t_tides)), (a_t_seepYard, .inl (cI, 6, .inl t_seepYard)), (a_t_growth, .inl (cI, 6, .inl t_growth)), (a_t_level, .inl (cI, 6, .inl t_level)), (a_t_kind, .inl (cI, 5, .inl t_kind)), (a_t_pace, .inl (cI, 5, .inl t_pace)), (a_t_ear, .inl (cI, 5, .inl t_ear)), (a_n, .inr (3, [.ref a_t, .int n_hours, .int n_filled, .ref a_n_size, .ref a_n_yard, .int n_toLesser, .ref a_n_oranges])), (a_n_size, .inl (cI, 6, .inl n_size)), (a_n_yard, .inl (cI, 5, .inl n_yard)), (a_n_oranges, .inl (cI, 5, .inl n_oranges)), (a_h, .inr (3, [.ref a_t, .int g34, .int g35, .ref a_h_size, .ref a_h_yard, .int g36, .ref a_h_oranges])), (a_h_size, .inl (cI, 6, .inl g37)), (a_h_yard, .inl (cI, 5, .inl g38)), (a_h_oranges, .inl (cI, 5, .inl g39)), (a_f, .inr (1, [.ref a_t, .ref a_n, .ref a_h, .ref a_f_breakHour, .ref a_f_heardInTime])), (a_f_breakHour, .inl (cI, 6, .inl g2)), (a_f_heardInTime, .inl (cI, 5, .inl g41))]) C hw 18 1 rfl rfl hi42 eg41 rfl (dq dt_X1_leastWatch 17 rfl) (fun H locs hw => ?_)
        obtain ⟨v43, ev43, hF⟩ := bd_ hF
        refine lv_iinc (v := v43) (lv' := [(2, .int v43), (0, .ref a_f), (1, .int v1)]) hx hb (dq dt_X1_leastWatch 18 rfl) hl (k := 2) rfl ev43.symm (by decide) rfl (fun ls hl => ?_)
        refine lv_goto (tgt := 7) hx hb (dq dt_X1_leastWatch 19 rfl) (by decide) ?_
        exact ih12 v43 g34 g35 g36 g37 g38 g39 g41 hF _ _ _ hw (lv_sub hl [1, 2, 0] rfl)
  exact L12 _ (0 : Int32) h_hours h_filled h_toLesser h_size h_yard h_oranges f_heardInTime hF _ _ _ hw (lv_sub hl [2, 1, 0] rfl)
def F_X8_watch (t_yards : Int32) (t_seeps : Int32) (t_children : Int32) (t_tides : Nat → Int32) (t_seepYard : Nat → Int32) (t_growth : Nat → Int32) (t_level : Nat → Int32) (t_kind : Nat → Int32) (t_pace : Nat → Int32) (t_ear : Nat → Int32) (n_hours : Int32) (n_filled : Int32) (n_toLesser : Int32) (n_size : Nat → Int32) (n_yard : Nat → Int32) (n_oranges : Nat → Int32) (h_hours : Int32) (h_filled : Int32) (h_toLesser : Int32) (h_size : Nat → Int32) (h_yard : Nat → Int32) (h_oranges : Nat → Int32) (f_breakHour : Nat → Int32) (f_heardInTime : Nat → Int32) (p1 : Int32) : Option (Int32 × Int32 × Int32 × Int32 × (Nat → Int32) × (Nat → Int32) × (Nat → Int32) × (Nat → Int32) × (Nat → Int32)) :=
  zc1 (F_X8_isWithin p1 (0 : Int32) (1 : Int32)) (fun v1 => if v1 = 0 then (some ((-3 : Int32), h_hours, h_filled, h_toLesser, h_size, h_yard, h_oranges, f_breakHour, f_heardInTime)) else (zc9 (F_X1_leastWatch t_yards t_seeps t_children t_tides t_seepYard t_growth t_level t_kind t_pace t_ear n_hours n_filled n_toLesser n_size n_yard n_oranges h_hours h_filled h_toLesser h_size h_yard h_oranges f_breakHour f_heardInTime) (fun v4 g5 g6 g7 g8 g9 g10 g11 g12 => if v4 = (-1 : Int32) then (some (v4, g5, g6, g7, g8, g9, g10, g11, g12)) else (if p1 = (1 : Int32) then (some (v4, g5, g6, g7, g8, g9, g10, g11, g12)) else (zc1 (F_J6_bitCount_0f7a4 v4) (fun v16 => some (v16, g5, g6, g7, g8, g9, g10, g11, g12)))))))
abbrev rm_X8_watch : Room := { frames := 6, cells := 0, slots := 0, locals := 158 }
theorem kd_X8_watch : yX8_watch.cls = RX8 ∧ yX8_watch.cls ≠ "java/lang/invoke/MethodHandle" ∧ yX8_watch.cls ≠ "java/lang/invoke/VarHandle" ∧ (parseMethodDescriptor yX8_watch.desc).map (fun d => d.parameters.length) = some 1 := by decide +kernel
set_option maxRecDepth 100000 in
set_option maxHeartbeats 4000000 in
theorem A_X8_watch (l : Launch) (D : va_G) (cB cI cJ cZ : ClassId) (ad : (Nat → Nat) × (Nat → Nat)) (a_d a_x a_t a_g a_r a_n a_k a_j a_f a_e a_z a_c a_t_tides a_t_seepYard a_t_seepSize a_t_growth a_t_level a_t_kind a_t_childYard a_t_pace a_t_ear a_n_size a_n_yard a_n_oranges a_h a_h_size a_h_yard a_h_oranges a_f_breakHour a_f_heardInTime : Nat) (d_keptBits : Int32) (t_yards : Int32) (t_seeps : Int32) (t_children : Int32) (t_tides : Nat → Int32) (t_seepYard : Nat → Int32) (t_growth : Nat → Int32) (t_level : Nat → Int32) (t_kind : Nat → Int32) (t_pace : Nat → Int32) (t_ear : Nat → Int32) (n_hours : Int32) (n_filled : Int32) (n_toLesser : Int32) (n_size : Nat → Int32) (n_yard : Nat → Int32) (n_oranges : Nat → Int32) (h_hours : Int32) (h_filled : Int32) (h_toLesser : Int32) (h_size : Nat → Int32) (h_yard : Nat → Int32) (h_oranges : Nat → Int32) (f_breakHour : Nat → Int32) (f_heardInTime : Nat → Int32) (p1 : Int32) (r : Int32) (h_hours' : Int32) (h_filled' : Int32) (h_toLesser' : Int32) (h_size' : Nat → Int32) (h_yard' : Nat → Int32) (h_oranges' : Nat → Int32) (f_breakHour' : Nat → Int32) (f_heardInTime' : Nat → Int32) (hF : F_X8_watch t_yards t_seeps t_children t_tides t_seepYard t_growth t_level t_kind t_pace t_ear n_hours n_filled n_toLesser n_size n_yard n_oranges h_hours h_filled h_toLesser h_size h_yard h_oranges f_breakHour f_heardInTime p1 = some (r, h_hours', h_filled', h_toLesser', h_size', h_yard', h_oranges', f_breakHour', f_heardInTime')) : kM l yX8_watch (Cond.code yX8_watch cX8_watch 3 (some .int) :: W0) rm_X8_watch D (kT cB cI cJ cZ) ad [.ref a_d, .int p1] [(a_d, .inr (8, [.ref a_x, .ref a_t, .ref a_g, .ref a_r, .ref a_n, .ref a_k, .ref a_j, .int d_keptBits, .ref a_f, .ref a_e, .ref a_z, .ref a_c])), (a_t, .inr (7, [.int t_yards, .ref a_t_tides, .int t_seeps, .ref a_t_seepYard, .ref a_t_seepSize, .ref a_t_growth, .ref a_t_level, .int t_children, .ref a_t_kind, .ref a_t_childYard, .ref a_t_pace, .ref a_t_ear])), (a_t_tides, .inl (cI, 12, .inl t_tides)), (a_t_seepYard, .inl (cI, 6, .inl t_seepYard)), (a_t_growth, .inl (cI, 6, .inl t_growth)), (a_t_level, .inl (cI, 6, .inl t_level)), (a_t_kind, .inl (cI, 5, .inl t_kind)), (a_t_pace, .inl (cI, 5, .inl t_pace)), (a_t_ear, .inl (cI, 5, .inl t_ear)), (a_n, .inr (3, [.ref a_t, .int n_hours, .int n_filled, .ref a_n_size, .ref a_n_yard, .int n_toLesser, .ref a_n_oranges])), (a_n_size, .inl (cI, 6, .inl n_size)), (a_n_yard, .inl (cI, 5, .inl n_yard)), (a_n_oranges, .inl (cI, 5, .inl n_oranges)), (a_h, .inr (3, [.ref a_t, .int h_hours, .int h_filled, .ref a_h_size, .ref a_h_yard, .int h_toLesser, .ref a_h_oranges])), (a_h_size, .inl (cI, 6, .inl h_size)), (a_h_yard, .inl (cI, 5, .inl h_yard)), (a_h_oranges, .inl (cI, 5, .inl h_oranges)), (a_f, .inr (1, [.ref a_t, .ref a_n, .ref a_h, .ref a_f_breakHour, .ref a_f_heardInTime])), (a_f_breakHour, .inl (cI, 6, .inl f_breakHour)), (a_f_heardInTime, .inl (cI, 5, .inl f_heardInTime))] (some (.int r)) [(a_d, .inr (8, [.ref a_x, .ref a_t, .ref a_g, .ref a_r, .ref a_n, .ref a_k, .ref a_j, .int d_keptBits, .ref a_f, .ref a_e, .ref a_z, .ref a_c])), (a_t, .inr (7, [.int t_yards, .ref a_t_tides, .int t_seeps, .ref a_t_seepYard, .ref a_t_seepSize, .ref a_t_growth, .ref a_t_level, .int t_children, .ref a_t_kind, .ref a_t_childYard, .ref a_t_pace, .ref a_t_ear])), (a_t_tides, .inl (cI, 12, .inl t_tides)), (a_t_seepYard, .inl (cI, 6, .inl t_seepYard)), (a_t_growth, .inl (cI, 6, .inl t_growth)), (a_t_level, .inl (cI, 6, .inl t_level)), (a_t_kind, .inl (cI, 5, .inl t_kind)), (a_t_pace, .inl (cI, 5, .inl t_pace)), (a_t_ear, .inl (cI, 5, .inl t_ear)), (a_n, .inr (3, [.ref a_t, .int n_hours, .int n_filled, .ref a_n_size, .ref a_n_yard, .int n_toLesser, .ref a_n_oranges])), (a_n_size, .inl (cI, 6, .inl n_size)), (a_n_yard, .inl (cI, 5, .inl n_yard)), (a_n_oranges, .inl (cI, 5, .inl n_oranges)), (a_h, .inr (3, [.ref a_t, .int (h_hours'), .int (h_filled'), .ref a_h_size, .ref a_h_yard, .int (h_toLesser'), .ref a_h_oranges])), (a_h_size, .inl (cI, 6, .inl (h_size'))), (a_h_yard, .inl (cI, 5, .inl (h_yard'))), (a_h_oranges, .inl (cI, 5, .inl (h_oranges'))), (a_f, .inr (1, [.ref a_t, .ref a_n, .ref a_h, .ref a_f_breakHour, .ref a_f_heardInTime])), (a_f_breakHour, .inl (cI, 6, .inl (f_breakHour'))), (a_f_heardInTime, .inl (cI, 5, .inl (f_heardInTime')))] := by
  unfold F_X8_watch at hF
  refine kStart (lv := [(0, .ref a_d), (1, .int p1)]) (own := "DikeWatch") (plainFor_of_name (by decide)) rfl (Nat.le_of_ble_eq_true rfl) rfl ?_
  intro p e s m args below meth c A Q ls hQ C hx hb hw hl
  refine lv_iload_n hx hb (dq dt_X8_watch 0 rfl) rfl (lv_at hl 1 rfl) ?_
  refine lv_iconst (v := (0 : Int32)) hx hb (dq dt_X8_watch 1 rfl) (by decide) ?_
  refine lv_iconst (v := (1 : Int32)) hx hb (dq dt_X8_watch 2 rfl) (by decide) ?_
  obtain ⟨v1, hr2, hF⟩ := zc1_ hF
  refine kCallSP C hw (A_X8_isWithin l D cB cI cJ cZ ad p1 (0 : Int32) (1 : Int32) v1 hr2) (va_cwS 3 C.2.2.2.2.2.2.1 (w0_S0 q2_65 q2_63 q2_64 q1_1) rfl rfl rfl ke_X8_isWithin ⟨Nat.le_of_ble_eq_true rfl, Nat.le_of_ble_eq_true rfl⟩) hl.1 rfl rfl rfl (Nat.le_of_ble_eq_true rfl) ⟨Nat.le_of_ble_eq_true rfl, Nat.le_of_ble_eq_true rfl⟩ (dq dt_X8_watch 3 rfl) (fun H locs hw => ?_)
  refine lv_if_ne (tgt := 12) hx hb (dq dt_X8_watch 4 rfl) (by decide) (fun c3 => ?_) (fun c3 => ?_)
  · replace hF := if_f c3 hF
    refine lv_aload_n hx hb (dq dt_X8_watch 7 rfl) rfl (lv_at hl 0 rfl) ?_
    refine kGet (ci := 8) C in_X8 hw 0 rfl rfl 8 (by decide) (C.2.2.2.2.2.2.1 _ q2_30) rfl rfl (dq dt_X8_watch 8 rfl) ?_
    obtain ⟨v4, g5, g6, g7, g8, g9, g10, g11, g12, hr13, hF⟩ := zc9_ hF
    refine kCallV (ws2 := [(a_d, .inr (8, [.ref a_x, .ref a_t, .ref a_g, .ref a_r, .ref a_n, .ref a_k, .ref a_j, .int d_keptBits, .ref a_f, .ref a_e, .ref a_z, .ref a_c])), (a_t, .inr (7, [.int t_yards, .ref a_t_tides, .int t_seeps, .ref a_t_seepYard, .ref a_t_seepSize, .ref a_t_growth, .ref a_t_level, .int t_children, .ref a_t_kind, .ref a_t_childYard, .ref a_t_pace, .ref a_t_ear])), (a_t_tides, .inl (cI, 12, .inl t_tides)), (a_t_seepYard, .inl (cI, 6, .inl t_seepYard)), (a_t_growth, .inl (cI, 6, .inl t_growth)), (a_t_level, .inl (cI, 6, .inl t_level)), (a_t_kind, .inl (cI, 5, .inl t_kind)), (a_t_pace, .inl (cI, 5, .inl t_pace)), (a_t_ear, .inl (cI, 5, .inl t_ear)), (a_n, .inr (3, [.ref a_t, .int n_hours, .int n_filled, .ref a_n_size, .ref a_n_yard, .int n_toLesser, .ref a_n_oranges])), (a_n_size, .inl (cI, 6, .inl n_size)), (a_n_yard, .inl (cI, 5, .inl n_yard)), (a_n_oranges, .inl (cI, 5, .inl n_oranges)), (a_h, .inr (3, [.ref a_t, .int g5, .int g6, .ref a_h_size, .ref a_h_yard, .int g7, .ref a_h_oranges])), (a_h_size, .inl (cI, 6, .inl g8)), (a_h_yard, .inl (cI, 5, .inl g9)), (a_h_oranges, .inl (cI, 5, .inl g10)), (a_f, .inr (1, [.ref a_t, .ref a_n, .ref a_h, .ref a_f_breakHour, .ref a_f_heardInTime])), (a_f_breakHour, .inl (cI, 6, .inl g11)), (a_f_heardInTime, .inl (cI, 5, .inl g12))]) C hw (A_X1_leastWatch l D cB cI cJ cZ ad a_t a_t_tides a_t_seepYard a_t_seepSize a_t_growth a_t_level a_t_kind a_t_childYard a_t_pace a_t_ear a_n a_n_size a_n_yard a_n_oranges a_h a_h_size a_h_yard a_h_oranges a_f a_f_breakHour a_f_heardInTime t_yards t_seeps t_children t_tides t_seepYard t_growth t_level t_kind t_pace t_ear n_hours n_filled n_toLesser n_size n_yard n_oranges h_hours h_filled h_toLesser h_size h_yard h_oranges f_breakHour f_heardInTime v4 g5 g6 g7 g8 g9 g10 g11 g12 hr13) (cwV 0 C.2.2.2.2.2.2.1 (w0_V0 q3_204 q3_201 q3_202 q3_203 q1_5) rfl rfl rfl kd_X1_leastWatch ⟨Nat.le_of_ble_eq_true rfl, Nat.le_of_ble_eq_true rfl⟩) [1, 2, 3, 4, 5, 6, 7, 8, 9, 10, 11, 12, 13, 14, 15, 16, 17, 18, 19] rfl rfl rfl rfl 17 1 rfl rfl hl.1 rfl rfl rfl (Nat.le_of_ble_eq_true rfl) ⟨Nat.le_of_ble_eq_true rfl, Nat.le_of_ble_eq_true rfl⟩ (dq dt_X8_watch 9 rfl) (fun H locs hw => ?_)
    refine lv_istore_n (lv' := [(2, .int v4), (0, .ref a_d), (1, .int p1)]) hx hb (dq dt_X8_watch 10 rfl) rfl hl (by decide) rfl (fun ls hl => ?_)
    refine lv_iload_n hx hb (dq dt_X8_watch 11 rfl) rfl (lv_at hl 0 rfl) ?_
    refine lv_iconst (v := (-1 : Int32)) hx hb (dq dt_X8_watch 12 rfl) (by decide) ?_
    refine lv_icmp_eq (tgt := 30) hx hb (dq dt_X8_watch 13 rfl) (by decide) (fun c14 => ?_) (fun c14 => ?_)
    · replace hF := if_t c14 hF
      refine lv_iload_n hx hb (dq dt_X8_watch 17 rfl) rfl (lv_at hl 0 rfl) ?_
      refine lv_goto (tgt := 38) hx hb (dq dt_X8_watch 18 rfl) (by decide) ?_
      cases hF
      exact kRetI hQ C hw (dq dt_X8_watch 21 rfl)
    · replace hF := if_f c14 hF
      refine lv_iload_n hx hb (dq dt_X8_watch 14 rfl) rfl (lv_at hl 2 rfl) ?_
      refine lv_iconst (v := (1 : Int32)) hx hb (dq dt_X8_watch 15 rfl) (by decide) ?_
      refine lv_icmp_ne (tgt := 34) hx hb (dq dt_X8_watch 16 rfl) (by decide) (fun c15 => ?_) (fun c15 => ?_)
      · replace hF := if_f c15 hF
        refine lv_iload_n hx hb (dq dt_X8_watch 19 rfl) rfl (lv_at hl 0 rfl) ?_
        obtain ⟨v16, hr17, hF⟩ := zc1_ hF
        refine kCallSP C hw (A_J6_bitCount_0f7a4 l D cB cI cJ cZ ad v4 v16 hr17) (va_cwS 1 C.2.2.2.2.2.2.1 (w0_S0 q3_207 q3_215 q3_206 q1_18) rfl rfl rfl ke_J6_bitCount_0f7a4 ⟨Nat.le_of_ble_eq_true rfl, Nat.le_of_ble_eq_true rfl⟩) hl.1 rfl rfl rfl (Nat.le_of_ble_eq_true rfl) ⟨Nat.le_of_ble_eq_true rfl, Nat.le_of_ble_eq_true rfl⟩ (dq dt_X8_watch 20 rfl) (fun H locs hw => ?_)
        cases hF
        exact kRetI hQ C hw (dq dt_X8_watch 21 rfl)
      · replace hF := if_t c15 hF
        refine lv_iload_n hx hb (dq dt_X8_watch 17 rfl) rfl (lv_at hl 0 rfl) ?_
        refine lv_goto (tgt := 38) hx hb (dq dt_X8_watch 18 rfl) (by decide) ?_
        cases hF
        exact kRetI hQ C hw (dq dt_X8_watch 21 rfl)
  · replace hF := if_t c3 hF
    refine lv_bipush (v := (-3 : Int32)) hx hb (dq dt_X8_watch 5 rfl) (by decide) ?_
    cases hF
    exact kRetI hQ C hw (dq dt_X8_watch 6 rfl)
