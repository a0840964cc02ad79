def F_X8_reaches (p1 : Int32) (p2 : Int32) (p3 : Int32) : Option (Int32) :=
  bd (if 0 ≤ (p2 - p3) then (p2 - p3) else 0 - (p2 - p3)) (fun v1 => if p1 < v1 then (some (0 : Int32)) else (some (1 : Int32)))
abbrev rm_X8_reaches : Room := { frames := 1, cells := 0, slots := 0, locals := 40 }
theorem ke_X8_reaches : yX8_reaches.cls ≠ "java/lang/invoke/MethodHandle" ∧ yX8_reaches.cls ≠ "java/lang/invoke/VarHandle" ∧ (parseMethodDescriptor yX8_reaches.desc).map (fun d => d.parameters.length) = some 3 := by decide +kernel
set_option maxRecDepth 100000 in
set_option maxHeartbeats 4000000 in
theorem A_X8_reaches (l : Launch) (D : va_G) (cB cI cJ cZ : ClassId) (ad : (Nat → Nat) × (Nat → Nat)) (p1 : Int32) (p2 : Int32) (p3 : Int32) (r : Int32) (hF : F_X8_reaches p1 p2 p3 = some r) : kM l yX8_reaches (Cond.code yX8_reaches cX8_reaches 3 (some .boolean) :: W0) rm_X8_reaches D (kT cB cI cJ cZ) ad [.int p1, .int p2, .int p3] [] (some (.int r)) [] := by
  unfold F_X8_reaches at hF
  refine kStart (lv := [(0, .int p1), (1, .int p2), (2, .int p3)]) (own := "DikeWatch") (plainFor_of_name (by decide)) rfl (Nat.le_of_ble_eq_true rfl) rfl ?_
  intro p e s m args below meth c A Q ls hQ C hx hb hw hl
  refine lv_iload_n hx hb (dq dt_X8_reaches 0 rfl) rfl (lv_at hl 1 rfl) ?_
  refine lv_iload_n hx hb (dq dt_X8_reaches 1 rfl) rfl (lv_at hl 2 rfl) ?_
  refine lv_isub hx hb (dq dt_X8_reaches 2 rfl) ?_
  refine va_mabs hx hb (C.2.2.1.trans hl.1.symm) C.2.2.2.2.2.1 (C.2.2.2.2.2.2.1 _ q3_55) (C.2.2.2.2.2.2.1 _ q3_56) (C.2.2.2.2.2.2.1 _ q1_17) (C.2.2.2.2.2.2.1 _ q3_57) (Nat.le_of_ble_eq_true rfl) (Nat.le_of_ble_eq_true rfl) (Nat.le_of_ble_eq_true rfl) (Nat.le_of_ble_eq_true rfl) (dq dt_X8_reaches 3 rfl) ?_
  obtain ⟨v1, ev1, hF⟩ := bd_ hF
  refine kNmI ev1 ?_
  refine lv_iload_n hx hb (dq dt_X8_reaches 4 rfl) rfl (lv_at hl 0 rfl) ?_
  refine lv_icmp_gt (tgt := 14) hx hb (dq dt_X8_reaches 5 rfl) (by decide) (fun c2 => ?_) (fun c2 => ?_)
  · replace hF := if_t c2 hF
    refine lv_iconst (v := (0 : Int32)) hx hb (dq dt_X8_reaches 8 rfl) (by decide) ?_
    cases hF
    exact kRetZ hQ C rfl hw (dq dt_X8_reaches 9 rfl)
  · replace hF := if_f c2 hF
    refine lv_iconst (v := (1 : Int32)) hx hb (dq dt_X8_reaches 6 rfl) (by decide) ?_
    refine lv_goto (tgt := 15) hx hb (dq dt_X8_reaches 7 rfl) (by decide) ?_
    cases hF
    exact kRetZ hQ C rfl hw (dq dt_X8_reaches 9 rfl)
def F_X3_heardFrom (t_seeps : Int32) (t_seepYard : Nat → Int32) (n_filled : Int32) (p1 : Int32) (p2 : Int32) : Option (Int32) :=
  zl2 (fun x1 x2 ag3 => if t_seeps ≤ x2 then (some x1) else (zc1 (F_X3_isFilled n_filled x2) (fun v5 => if v5 = 0 then (rd 6 t_seepYard x2 (fun v9 => zc1 (F_X8_reaches p2 p1 v9) (fun v11 => if v11 = 0 then (bd (x2 + (1 : Int32)) (fun v14 => ag3 x1 v14)) else (bd (x1 ||| ((1 : Int32) <<< (x2 &&& 31))) (fun v15 => bd (x2 + (1 : Int32)) (fun v16 => ag3 v15 v16)))))) else (bd (x2 + (1 : Int32)) (fun v8 => ag3 x1 v8))))) FU (0 : Int32) (0 : Int32)
abbrev rm_X3_heardFrom : Room := { frames := 2, cells := 0, slots := 0, locals := 62 }
theorem kd_X3_heardFrom : yX3_heardFrom.cls = RX3 ∧ yX3_heardFrom.cls ≠ "java/lang/invoke/MethodHandle" ∧ yX3_heardFrom.cls ≠ "java/lang/invoke/VarHandle" ∧ (parseMethodDescriptor yX3_heardFrom.desc).map (fun d => d.parameters.length) = some 2 := by decide +kernel
set_option maxRecDepth 100000 in
set_option maxHeartbeats 4000000 in
theorem A_X3_heardFrom (l : Launch) (D : va_G) (cB cI cJ cZ : ClassId) (ad : (Nat → Nat) × (Nat → Nat)) (a_t a_t_tides a_t_seepYard a_t_seepSize a_t_growth a_t_level a_t_kind a_t_childYard a_t_pace a_t_ear a_n a_n_size a_n_yard a_n_oranges : Nat) (t_yards : Int32) (t_seeps : Int32) (t_children : Int32) (t_seepYard : Nat → Int32) (n_hours : Int32) (n_filled : Int32) (n_toLesser : Int32) (p1 : Int32) (p2 : Int32) (r : Int32) (hF : F_X3_heardFrom t_seeps t_seepYard n_filled p1 p2 = some r) : kM l yX3_heardFrom (Cond.code yX3_heardFrom cX3_heardFrom 5 (some .int) :: W0) rm_X3_heardFrom D (kT cB cI cJ cZ) ad [.ref a_n, .int p1, .int p2] [(a_t, .inr (7, [.int t_yards, .ref a_t_tides, .int t_seeps, .ref a_t_seepYard, .ref a_t_seepSize, .ref a_t_growth, .ref a_t_level, .int t_children, .ref a_t_kind, .ref a_t_childYard, .ref a_t_pace, .ref a_t_ear])), (a_t_seepYard, .inl (cI, 6, .inl t_seepYard)), (a_n, .inr (3, [.ref a_t, .int n_hours, .int n_filled, .ref a_n_size, .ref a_n_yard, .int n_toLesser, .ref a_n_oranges]))] (some (.int r)) [(a_t, .inr (7, [.int t_yards, .ref a_t_tides, .int t_seeps, .ref a_t_seepYard, .ref a_t_seepSize, .ref a_t_growth, .ref a_t_level, .int t_children, .ref a_t_kind, .ref a_t_childYard, .ref a_t_pace, .ref a_t_ear])), (a_t_seepYard, .inl (cI, 6, .inl t_seepYard)), (a_n, .inr (3, [.ref a_t, .int n_hours, .int n_filled, .ref a_n_size, .ref a_n_yard, .int n_toLesser, .ref a_n_oranges]))] := by
  unfold F_X3_heardFrom at hF
  refine kStart (lv := [(0, .ref a_n), (1, .int p1), (2, .int p2)]) (own := "DikeWatch$Night") (plainFor_of_name (by decide)) rfl (Nat.le_of_ble_eq_true rfl) rfl ?_
  intro p e s m args below meth c A Q ls hQ C hx hb hw hl
  refine lv_iconst (v := (0 : Int32)) hx hb (dq dt_X3_heardFrom 0 rfl) (by decide) ?_
  refine lv_istore_n (lv' := [(3, .int (0 : Int32)), (0, .ref a_n), (1, .int p1), (2, .int p2)]) hx hb (dq dt_X3_heardFrom 1 rfl) rfl hl (by decide) rfl (fun ls hl => ?_)
  refine lv_iconst (v := (0 : Int32)) hx hb (dq dt_X3_heardFrom 2 rfl) (by decide) ?_
  refine lv_istore (lv' := [(4, .int (0 : Int32)), (3, .int (0 : Int32)), (0, .ref a_n), (1, .int p1), (2, .int p2)]) hx hb (dq dt_X3_heardFrom 3 rfl) hl (by decide) rfl (fun ls hl => ?_)
  obtain ⟨K3, hK03, hK3, hF⟩ := zl2_ hF
  have L3 : ∀ (n : Nat) (x1 : Int32) (x2 : Int32), K3 n x1 x2 = some r → ∀ (H : Heap) (locs : List Loc) (ls : Array Slot), kW D A s.heap [(a_t, .inr (7, [.int t_yards, .ref a_t_tides, .int t_seeps, .ref a_t_seepYard, .ref a_t_seepSize, .ref a_t_growth, .ref a_t_level, .int t_children, .ref a_t_kind, .ref a_t_childYard, .ref a_t_pace, .ref a_t_ear])), (a_t_seepYard, .inl (cI, 6, .inl t_seepYard)), (a_n, .inr (3, [.ref a_t, .int n_hours, .int n_filled, .ref a_n_size, .ref a_n_yard, .int n_toLesser, .ref a_n_oranges]))] H locs → lv_has ls 5 [(0, .ref a_n), (1, .int p1), (2, .int p2), (3, .int x1), (4, .int x2)] → W p l e rm_X3_heardFrom s m args below meth c H locs 0 0 Q (F0 m 5 ls []) := by
    intro n
    induction n with
    | zero => intro x1 x2 hF; exact (lp_no (hK03 x1 x2) hF).elim
    | succ n ih3 =>
      intro x1 x2 hF H locs ls hw hl
      replace hF := hK3 n x1 x2 hF
      refine lv_iload hx hb (dq dt_X3_heardFrom 4 rfl) (lv_at hl 4 rfl) ?_
      refine lv_aload_n hx hb (dq dt_X3_heardFrom 5 rfl) rfl (lv_at hl 0 rfl) ?_
      refine kGet (ci := 3) C in_X3 hw 2 rfl rfl 0 (by decide) (C.2.2.2.2.2.2.1 _ q1_119) rfl rfl (dq dt_X3_heardFrom 6 rfl) ?_
      refine kGet (ci := 7) C in_X7 hw 0 rfl rfl 2 (by decide) (C.2.2.2.2.2.2.1 _ q1_60) rfl rfl (dq dt_X3_heardFrom 7 rfl) ?_
      refine lv_icmp_ge (tgt := 57) hx hb (dq dt_X3_heardFrom 8 rfl) (by decide) (fun c4 => ?_) (fun c4 => ?_)
      · replace hF := if_t c4 hF
        refine lv_iload_n hx hb (dq dt_X3_heardFrom 30 rfl) rfl (lv_at hl 3 rfl) ?_
        cases hF
        exact kRetI hQ C hw (dq dt_X3_heardFrom 31 rfl)
      · replace hF := if_f c4 hF
        refine lv_aload_n hx hb (dq dt_X3_heardFrom 9 rfl) rfl (lv_at hl 0 rfl) ?_
        refine lv_iload hx hb (dq dt_X3_heardFrom 10 rfl) (lv_at hl 4 rfl) ?_
        obtain ⟨v5, hr6, hF⟩ := zc1_ hF
        refine kCallVR C hw (A_X3_isFilled l D cB cI cJ cZ ad a_n a_t a_n_size a_n_yard a_n_oranges n_hours n_filled n_toLesser x2 v5 hr6) (cwV 1 C.2.2.2.2.2.2.1 (w0_V0 q3_15 q3_51 q3_13 q3_14 q1_4) rfl rfl rfl kd_X3_isFilled ⟨Nat.le_of_ble_eq_true rfl, Nat.le_of_ble_eq_true rfl⟩) [2] rfl rfl 2 3 rfl rfl hl.1 rfl rfl rfl (Nat.le_of_ble_eq_true rfl) ⟨Nat.le_of_ble_eq_true rfl, Nat.le_of_ble_eq_true rfl⟩ (dq dt_X3_heardFrom 11 rfl) (fun H locs hw => ?_)
        refine lv_if_ne (tgt := 51) hx hb (dq dt_X3_heardFrom 12 rfl) (by decide) (fun c7 => ?_) (fun c7 => ?_)
        · replace hF := if_f c7 hF
          obtain ⟨v8, ev8, hF⟩ := bd_ hF
          refine lv_iinc (v := v8) (lv' := [(4, .int v8), (0, .ref a_n), (1, .int p1), (2, .int p2), (3, .int x1)]) hx hb (dq dt_X3_heardFrom 28 rfl) hl (k := 4) rfl ev8.symm (by decide) rfl (fun ls hl => ?_)
          refine lv_goto (tgt := 5) hx hb (dq dt_X3_heardFrom 29 rfl) (by decide) ?_
          exact ih3 x1 v8 hF _ _ _ hw (lv_sub hl [1, 2, 3, 4, 0] rfl)
        · replace hF := if_t c7 hF
          refine lv_iload_n hx hb (dq dt_X3_heardFrom 13 rfl) rfl (lv_at hl 2 rfl) ?_
          refine lv_iload_n hx hb (dq dt_X3_heardFrom 14 rfl) rfl (lv_at hl 1 rfl) ?_
          refine lv_aload_n hx hb (dq dt_X3_heardFrom 15 rfl) rfl (lv_at hl 0 rfl) ?_
          refine kGet (ci := 3) C in_X3 hw 2 rfl rfl 0 (by decide) (C.2.2.2.2.2.2.1 _ q1_119) rfl rfl (dq dt_X3_heardFrom 16 rfl) ?_
          refine kGet (ci := 7) C in_X7 hw 0 rfl rfl 3 (by decide) (C.2.2.2.2.2.2.1 _ q1_65) rfl rfl (dq dt_X3_heardFrom 17 rfl) ?_
          refine lv_iload hx hb (dq dt_X3_heardFrom 18 rfl) (lv_at hl 4 rfl) ?_
          obtain ⟨v9, ev9, hi10, hF⟩ := rd_ hF
          refine kIald C hw 1 1 rfl rfl hi10 ev9 (dq dt_X3_heardFrom 19 rfl) ?_
          obtain ⟨v11, hr12, hF⟩ := zc1_ hF
          refine kCallSN C hw (A_X8_reaches l D cB cI cJ cZ ad p2 p1 v9 v11 hr12) ⟨va_cnB 3 C.2.2.2.2.2.2.1 (w0_all0 q3_54) rfl rfl rfl (C.2.2.2.2.2.2.2.2.1.1 _ (List.mem_of_getElem? (i := 6) rfl)) (C.2.2.2.2.2.2.1 _ q1_1) ke_X8_reaches ⟨Nat.le_of_ble_eq_true rfl, Nat.le_of_ble_eq_true rfl⟩, (C.2.2.2.2.2.2.1 _ q3_53), trivial⟩ hl.1 rfl rfl rfl (Nat.le_of_ble_eq_true rfl) ⟨Nat.le_of_ble_eq_true rfl, Nat.le_of_ble_eq_true rfl⟩ (dq dt_X3_heardFrom 20 rfl) (fun H locs hw => ?_)
          refine lv_if_eq (tgt := 51) hx hb (dq dt_X3_heardFrom 21 rfl) (by decide) (fun c13 => ?_) (fun c13 => ?_)
          · replace hF := if_t c13 hF
            obtain ⟨v14, ev14, hF⟩ := bd_ hF
            refine lv_iinc (v := v14) (lv' := [(4, .int v14), (0, .ref a_n), (1, .int p1), (2, .int p2), (3, .int x1)]) hx hb (dq dt_X3_heardFrom 28 rfl) hl (k := 4) rfl ev14.symm (by decide) rfl (fun ls hl => ?_)
            refine lv_goto (tgt := 5) hx hb (dq dt_X3_heardFrom 29 rfl) (by decide) ?_
            exact ih3 x1 v14 hF _ _ _ hw (lv_sub hl [1, 2, 3, 4, 0] rfl)
          · replace hF := if_f c13 hF
            refine lv_iload_n hx hb (dq dt_X3_heardFrom 22 rfl) rfl (lv_at hl 3 rfl) ?_
            refine lv_iconst (v := (1 : Int32)) hx hb (dq dt_X3_heardFrom 23 rfl) (by decide) ?_
            refine lv_iload hx hb (dq dt_X3_heardFrom 24 rfl) (lv_at hl 4 rfl) ?_
            refine lv_ishl hx hb (dq dt_X3_heardFrom 25 rfl) ?_
            refine lv_ior hx hb (dq dt_X3_heardFrom 26 rfl) ?_
            obtain ⟨v15, ev15, hF⟩ := bd_ hF
            refine kNmI ev15 ?_
            refine lv_istore_n (lv' := [(3, .int v15), (0, .ref a_n), (1, .int p1), (2, .int p2), (4, .int x2)]) hx hb (dq dt_X3_heardFrom 27 rfl) rfl hl (by decide) rfl (fun ls hl => ?_)
            obtain ⟨v16, ev16, hF⟩ := bd_ hF
            refine lv_iinc (v := v16) (lv' := [(4, .int v16), (3, .int v15), (0, .ref a_n), (1, .int p1), (2, .int p2)]) hx hb (dq dt_X3_heardFrom 28 rfl) hl (k := 4) rfl ev16.symm (by decide) rfl (fun ls hl => ?_)
            refine lv_goto (tgt := 5) hx hb (dq dt_X3_heardFrom 29 rfl) (by decide) ?_
            exact ih3 v15 v16 hF _ _ _ hw (lv_sub hl [2, 3, 4, 1, 0] rfl)
  exact L3 _ (0 : Int32) (0 : Int32) hF _ _ _ hw (lv_sub hl [2, 3, 4, 1, 0] rfl)
def F_X3_heardBy (t_seeps : Int32) (t_seepYard : Nat → Int32) (t_kind : Nat → Int32) (t_ear : Nat → Int32) (n_hours : Int32) (n_filled : Int32) (n_yard : Nat → Int32) (p1 : Int32) : Option (Int32) :=
  rd 5 t_kind p1 (fun v1 => if v1 = (2 : Int32) then (some (0 : Int32)) else (if v1 = (3 : Int32) then (some (0 : Int32)) else (rd 5 n_yard p1 (fun v5 => zc1 (F_X3_earOf t_kind t_ear n_hours p1) (fun v7 => zc1 (F_X3_heardFrom t_seeps t_seepYard n_filled v5 v7) (fun v9 => some v9))))))
abbrev rm_X3_heardBy : Room := { frames := 3, cells := 0, slots := 0, locals := 86 }
theorem kd_X3_heardBy : yX3_heardBy.cls = RX3 ∧ yX3_heardBy.cls ≠ "java/lang/invoke/MethodHandle" ∧ yX3_heardBy.cls ≠ "java/lang/invoke/VarHandle" ∧ (parseMethodDescriptor yX3_heardBy.desc).map (fun d => d.parameters.length) = some 1 := by decide +kernel
set_option maxRecDepth 100000 in
set_option maxHeartbeats 4000000 in
theorem A_X3_heardBy (l : Launch) (D : va_G) (cB cI cJ cZ : ClassId) (ad : (Nat → Nat) × (Nat → Nat)) (a_t a_t_tides a_t_seepYard a_t_seepSize a_t_growth a_t_level a_t_kind a_t_childYard a_t_pace a_t_ear a_n a_n_size a_n_yard a_n_oranges : Nat) (t_yards : Int32) (t_seeps : Int32) (t_children : Int32) (t_seepYard : Nat → Int32) (t_kind : Nat → Int32) (t_ear : Nat → Int32) (n_hours : Int32) (n_filled : Int32) (n_toLesser : Int32) (n_yard : Nat → Int32) (p1 : Int32) (r : Int32) (hF : F_X3_heardBy t_seeps t_seepYard t_kind t_ear n_hours n_filled n_yard p1 = some r) : kM l yX3_heardBy (Cond.code yX3_heardBy cX3_heardBy 3 (some .int) :: W0) rm_X3_heardBy D (kT cB cI cJ cZ) ad [.ref a_n, .int p1] [(a_t, .inr (7, [.int t_yards, .ref a_t_tides, .int t_seeps, .ref a_t_seepYard, .ref a_t_seepSize, .ref a_t_growth, .ref a_t_level, .int t_children, .ref a_t_kind, .ref a_t_childYard, .ref a_t_pace, .ref a_t_ear])), (a_t_seepYard, .inl (cI, 6, .inl t_seepYard)), (a_t_kind, .inl (cI, 5, .inl t_kind)), (a_t_ear, .inl (cI, 5, .inl t_ear)), (a_n, .inr (3, [.ref a_t, .int n_hours, .int n_filled, .ref a_n_size, .ref a_n_yard, .int n_toLesser, .ref a_n_oranges])), (a_n_yard, .inl (cI, 5, .inl n_yard))] (some (.int r)) [(a_t, .inr (7, [.int t_yards, .ref a_t_tides, .int t_seeps, .ref a_t_seepYard, .ref a_t_seepSize, .ref a_t_growth, .ref a_t_level, .int t_children, .ref a_t_kind, .ref a_t_childYard, .ref a_t_pace, .ref a_t_ear])), (a_t_seepYard, .inl (cI, 6, .inl t_seepYard)), (a_t_kind, .inl (cI, 5, .inl t_kind)), (a_t_ear, .inl (cI, 5, .inl t_ear)), (a_n, .inr (3, [.ref a_t, .int n_hours, .int n_filled, .ref a_n_size, .ref a_n_yard, .int n_toLesser, .ref a_n_oranges])), (a_n_yard, .inl (cI, 5, .inl n_yard))] := by
  unfold F_X3_heardBy at hF
  refine kStart (lv := [(0, .ref a_n), (1, .int p1)]) (own := "DikeWatch$Night") (plainFor_of_name (by decide)) rfl (Nat.le_of_ble_eq_true rfl) rfl ?_
  intro p e s m args below meth c A Q ls hQ C hx hb hw hl
  refine lv_aload_n hx hb (dq dt_X3_heardBy 0 rfl) rfl (lv_at hl 0 rfl) ?_
  refine kGet (ci := 3) C in_X3 hw 4 rfl rfl 0 (by decide) (C.2.2.2.2.2.2.1 _ q1_119) rfl rfl (dq dt_X3_heardBy 1 rfl) ?_
  refine kGet (ci := 7) C in_X7 hw 0 rfl rfl 8 (by decide) (C.2.2.2.2.2.2.1 _ q1_79) rfl rfl (dq dt_X3_heardBy 2 rfl) ?_
  refine lv_iload_n hx hb (dq dt_X3_heardBy 3 rfl) rfl (lv_at hl 1 rfl) ?_
  obtain ⟨v1, ev1, hi2, hF⟩ := rd_ hF
  refine kIald C hw 2 1 rfl rfl hi2 ev1 (dq dt_X3_heardBy 4 rfl) ?_
  refine lv_istore_n (lv' := [(2, .int v1), (0, .ref a_n), (1, .int p1)]) hx hb (dq dt_X3_heardBy 5 rfl) rfl hl (by decide) rfl (fun ls hl => ?_)
  refine lv_iload_n hx hb (dq dt_X3_heardBy 6 rfl) rfl (lv_at hl 0 rfl) ?_
  refine lv_iconst (v := (2 : Int32)) hx hb (dq dt_X3_heardBy 7 rfl) (by decide) ?_
  refine lv_icmp_eq (tgt := 20) hx hb (dq dt_X3_heardBy 8 rfl) (by decide) (fun c3 => ?_) (fun c3 => ?_)
  · replace hF := if_t c3 hF
    refine lv_iconst (v := (0 : Int32)) hx hb (dq dt_X3_heardBy 12 rfl) (by decide) ?_
    refine lv_goto (tgt := 39) hx hb (dq dt_X3_heardBy 13 rfl) (by decide) ?_
    cases hF
    exact kRetI hQ C hw (dq dt_X3_heardBy 23 rfl)
  · replace hF := if_f c3 hF
    refine lv_iload_n hx hb (dq dt_X3_heardBy 9 rfl) rfl (lv_at hl 0 rfl) ?_
    refine lv_iconst (v := (3 : Int32)) hx hb (dq dt_X3_heardBy 10 rfl) (by decide) ?_
    refine lv_icmp_ne (tgt := 24) hx hb (dq dt_X3_heardBy 11 rfl) (by decide) (fun c4 => ?_) (fun c4 => ?_)
    · replace hF := if_f c4 hF
      refine lv_aload_n hx hb (dq dt_X3_heardBy 14 rfl) rfl (lv_at hl 1 rfl) ?_
      refine lv_aload_n hx hb (dq dt_X3_heardBy 15 rfl) rfl (lv_at hl 1 rfl) ?_
      refine kGet (ci := 3) C in_X3 hw 4 rfl rfl 4 (by decide) (C.2.2.2.2.2.2.1 _ q1_128) rfl rfl (dq dt_X3_heardBy 16 rfl) ?_
      refine lv_iload_n hx hb (dq dt_X3_heardBy 17 rfl) rfl (lv_at hl 2 rfl) ?_
      obtain ⟨v5, ev5, hi6, hF⟩ := rd_ hF
      refine kIald C hw 5 1 rfl rfl hi6 ev5 (dq dt_X3_heardBy 18 rfl) ?_
      refine lv_aload_n hx hb (dq dt_X3_heardBy 19 rfl) rfl (lv_at hl 1 rfl) ?_
      refine lv_iload_n hx hb (dq dt_X3_heardBy 20 rfl) rfl (lv_at hl 2 rfl) ?_
      obtain ⟨v7, hr8, hF⟩ := zc1_ hF
      refine kCallVR C hw (A_X3_earOf l D cB cI cJ cZ ad a_t a_t_tides a_t_seepYard a_t_seepSize a_t_growth a_t_level a_t_kind a_t_childYard a_t_pace a_t_ear a_n a_n_size a_n_yard a_n_oranges t_yards t_seeps t_children t_kind t_ear n_hours n_filled n_toLesser p1 v7 hr8) (cwV 1 C.2.2.2.2.2.2.1 (w0_V0 q3_30 q3_46 q3_28 q3_29 q1_4) rfl rfl rfl kd_X3_earOf ⟨Nat.le_of_ble_eq_true rfl, Nat.le_of_ble_eq_true rfl⟩) [0, 2, 3, 4] rfl rfl 4 3 rfl rfl hl.1 rfl rfl rfl (Nat.le_of_ble_eq_true rfl) ⟨Nat.le_of_ble_eq_true rfl, Nat.le_of_ble_eq_true rfl⟩ (dq dt_X3_heardBy 21 rfl) (fun H locs hw => ?_)
      obtain ⟨v9, hr10, hF⟩ := zc1_ hF
      refine kCallVR C hw (A_X3_heardFrom l D cB cI cJ cZ ad a_t a_t_tides a_t_seepYard a_t_seepSize a_t_growth a_t_level a_t_kind a_t_childYard a_t_pace a_t_ear a_n a_n_size a_n_yard a_n_oranges t_yards t_seeps t_children t_seepYard n_hours n_filled n_toLesser v5 v7 v9 hr10) (cwV 2 C.2.2.2.2.2.2.1 (w0_V0 q3_50 q3_47 q3_48 q3_49 q1_4) rfl rfl rfl kd_X3_heardFrom ⟨Nat.le_of_ble_eq_true rfl, Nat.le_of_ble_eq_true rfl⟩) [0, 1, 4] rfl rfl 4 3 rfl rfl hl.1 rfl rfl rfl (Nat.le_of_ble_eq_true rfl) ⟨Nat.le_of_ble_eq_true rfl, Nat.le_of_ble_eq_true rfl⟩ (dq dt_X3_heardBy 22 rfl) (fun H locs hw => ?_)
      cases hF
      exact kRetI hQ C hw (dq dt_X3_heardBy 23 rfl)
    · replace hF := if_t c4 hF
      refine lv_iconst (v := (0 : Int32)) hx hb (dq dt_X3_heardBy 12 rfl) (by decide) ?_
      refine lv_goto (tgt := 39) hx hb (dq dt_X3_heardBy 13 rfl) (by decide) ?_
      cases hF
      exact kRetI hQ C hw (dq dt_X3_heardBy 23 rfl)
def F_J6_compare_7cf53 (p1 : Int32) (p2 : Int32) : Option (Int32) :=
  if p2 ≤ p1 then (if p1 = p2 then (some (0 : Int32)) else (some (1 : Int32))) else (some (-1 : Int32))
abbrev rm_J6_compare_7cf53 : Room := { frames := 0, cells := 0, slots := 0, locals := 0 }
theorem ke_J6_compare_7cf53 : yJ6_compare_7cf53.cls ≠ "java/lang/invoke/MethodHandle" ∧ yJ6_compare_7cf53.cls ≠ "java/lang/invoke/VarHandle" ∧ (parseMethodDescriptor yJ6_compare_7cf53.desc).map (fun d => d.parameters.length) = some 2 := by decide +kernel
set_option maxRecDepth 100000 in
set_option maxHeartbeats 4000000 in
theorem A_J6_compare_7cf53 (l : Launch) (D : va_G) (cB cI cJ cZ : ClassId) (ad : (Nat → Nat) × (Nat → Nat)) (p1 : Int32) (p2 : Int32) (r : Int32) (hF : F_J6_compare_7cf53 p1 p2 = some r) : kM l yJ6_compare_7cf53 (Cond.code yJ6_compare_7cf53 cJ6_compare_7cf53 2 (some .int) :: W0) rm_J6_compare_7cf53 D (kT cB cI cJ cZ) ad [.int p1, .int p2] [] (some (.int r)) [] := by
  unfold F_J6_compare_7cf53 at hF
  refine kStart (lv := [(0, .int p1), (1, .int p2)]) (own := "java/lang/Integer") (by decide +kernel) rfl (Nat.le_of_ble_eq_true rfl) rfl ?_
  intro p e s m args below meth c A Q ls hQ C hx hb hw hl
  refine lv_iload_n hx hb (dq dt_J6_compare_7cf53 0 rfl) rfl (lv_at hl 0 rfl) ?_
  refine lv_iload_n hx hb (dq dt_J6_compare_7cf53 1 rfl) rfl (lv_at hl 1 rfl) ?_
  refine lv_icmp_ge (tgt := 9) hx hb (dq dt_J6_compare_7cf53 2 rfl) (by decide) (fun c1 => ?_) (fun c1 => ?_)
  · replace hF := if_t c1 hF
    refine lv_iload_n hx hb (dq dt_J6_compare_7cf53 5 rfl) rfl (lv_at hl 0 rfl) ?_
    refine lv_iload_n hx hb (dq dt_J6_compare_7cf53 6 rfl) rfl (lv_at hl 1 rfl) ?_
    refine lv_icmp_ne (tgt := 18) hx hb (dq dt_J6_compare_7cf53 7 rfl) (by decide) (fun c2 => ?_) (fun c2 => ?_)
    · replace hF := if_f c2 hF
      refine lv_iconst (v := (1 : Int32)) hx hb (dq dt_J6_compare_7cf53 10 rfl) (by decide) ?_
      cases hF
      exact kRetI hQ C hw (dq dt_J6_compare_7cf53 11 rfl)
    · replace hF := if_t c2 hF
      refine lv_iconst (v := (0 : Int32)) hx hb (dq dt_J6_compare_7cf53 8 rfl) (by decide) ?_
      refine lv_goto (tgt := 19) hx hb (dq dt_J6_compare_7cf53 9 rfl) (by decide) ?_
      cases hF
      exact kRetI hQ C hw (dq dt_J6_compare_7cf53 11 rfl)
  · replace hF := if_f c1 hF
    refine lv_iconst (v := (-1 : Int32)) hx hb (dq dt_J6_compare_7cf53 3 rfl) (by decide) ?_
    refine lv_goto (tgt := 19) hx hb (dq dt_J6_compare_7cf53 4 rfl) (by decide) ?_
    cases hF
    exact kRetI hQ C hw (dq dt_J6_compare_7cf53 11 rfl)
def F_X3_isNearer (p1 : Int32) (p2 : Int32) (p3 : Int32) : Option (Int32) :=
  if p3 = (-1 : Int32) then (some (1 : Int32)) else (bd (if 0 ≤ (p1 - p2) then (p1 - p2) else 0 - (p1 - p2)) (fun v2 => bd (if 0 ≤ (p1 - p3) then (p1 - p3) else 0 - (p1 - p3)) (fun v3 => zc1 (F_J6_compare_7cf53 v2 v3) (fun v4 => if v4 < 0 then (some (1 : Int32)) else (if v4 = 0 then (if p3 ≤ p2 then (some (0 : Int32)) else (some (1 : Int32))) else (some (0 : Int32)))))))
abbrev rm_X3_isNearer : Room := { frames := 1, cells := 0, slots := 0, locals := 40 }
theorem ke_X3_isNearer : yX3_isNearer.cls ≠ "java/lang/invoke/MethodHandle" ∧ yX3_isNearer.cls ≠ "java/lang/invoke/VarHandle" ∧ (parseMethodDescriptor yX3_isNearer.desc).map (fun d => d.parameters.length) = some 3 := by decide +kernel
set_option maxRecDepth 100000 in
set_option maxHeartbeats 4000000 in
theorem A_X3_isNearer (l : Launch) (D : va_G) (cB cI cJ cZ : ClassId) (ad : (Nat → Nat) × (Nat → Nat)) (p1 : Int32) (p2 : Int32) (p3 : Int32) (r : Int32) (hF : F_X3_isNearer p1 p2 p3 = some r) : kM l yX3_isNearer (Cond.code yX3_isNearer cX3_isNearer 4 (some .boolean) :: W0) rm_X3_isNearer D (kT cB cI cJ cZ) ad [.int p1, .int p2, .int p3] [] (some (.int r)) [] := by
  unfold F_X3_isNearer at hF
  refine kStart (lv := [(0, .int p1), (1, .int p2), (2, .int p3)]) (own := "DikeWatch$Night") (plainFor_of_name (by decide)) rfl (Nat.le_of_ble_eq_true rfl) rfl ?_
  intro p e s m args below meth c A Q ls hQ C hx hb hw hl
  refine lv_iload_n hx hb (dq dt_X3_isNearer 0 rfl) rfl (lv_at hl 2 rfl) ?_
  refine lv_iconst (v := (-1 : Int32)) hx hb (dq dt_X3_isNearer 1 rfl) (by decide) ?_
  refine lv_icmp_ne (tgt := 7) hx hb (dq dt_X3_isNearer 2 rfl) (by decide) (fun c1 => ?_) (fun c1 => ?_)
  · replace hF := if_f c1 hF
    refine lv_iload_n hx hb (dq dt_X3_isNearer 5 rfl) rfl (lv_at hl 0 rfl) ?_
    refine lv_iload_n hx hb (dq dt_X3_isNearer 6 rfl) rfl (lv_at hl 1 rfl) ?_
    refine lv_isub hx hb (dq dt_X3_isNearer 7 rfl) ?_
    refine va_mabs hx hb (C.2.2.1.trans hl.1.symm) C.2.2.2.2.2.1 (C.2.2.2.2.2.2.1 _ q3_61) (C.2.2.2.2.2.2.1 _ q3_56) (C.2.2.2.2.2.2.1 _ q1_17) (C.2.2.2.2.2.2.1 _ q3_57) (Nat.le_of_ble_eq_true rfl) (Nat.le_of_ble_eq_true rfl) (Nat.le_of_ble_eq_true rfl) (Nat.le_of_ble_eq_true rfl) (dq dt_X3_isNearer 8 rfl) ?_
    obtain ⟨v2, ev2, hF⟩ := bd_ hF
    refine kNmI ev2 ?_
    refine lv_iload_n hx hb (dq dt_X3_isNearer 9 rfl) rfl (lv_at hl 0 rfl) ?_
    refine lv_iload_n hx hb (dq dt_X3_isNearer 10 rfl) rfl (lv_at hl 2 rfl) ?_
    refine lv_isub hx hb (dq dt_X3_isNearer 11 rfl) ?_
    refine va_mabs hx hb (C.2.2.1.trans hl.1.symm) C.2.2.2.2.2.1 (C.2.2.2.2.2.2.1 _ q3_61) (C.2.2.2.2.2.2.1 _ q3_56) (C.2.2.2.2.2.2.1 _ q1_17) (C.2.2.2.2.2.2.1 _ q3_57) (Nat.le_of_ble_eq_true rfl) (Nat.le_of_ble_eq_true rfl) (Nat.le_of_ble_eq_true rfl) (Nat.le_of_ble_eq_true rfl) (dq dt_X3_isNearer 12 rfl) ?_
    obtain ⟨v3, ev3, hF⟩ := bd_ hF
    refine kNmI ev3 ?_
    obtain ⟨v4, hr5, hF⟩ := zc1_ hF
    refine kCallSP C hw (A_J6_compare_7cf53 l D cB cI cJ cZ ad v2 v3 v4 hr5) (va_cwS 2 C.2.2.2.2.2.2.1 (w0_S0 q3_64 q3_62 q3_63 q1_18) rfl rfl rfl ke_J6_compare_7cf53 ⟨Nat.le_of_ble_eq_true rfl, Nat.le_of_ble_eq_true rfl⟩) hl.1 rfl rfl rfl (Nat.le_of_ble_eq_true rfl) ⟨Nat.le_of_ble_eq_true rfl, Nat.le_of_ble_eq_true rfl⟩ (dq dt_X3_isNearer 13 rfl) (fun H locs hw => ?_)
    refine lv_istore_n (lv' := [(3, .int v4), (0, .int p1), (1, .int p2), (2, .int p3)]) hx hb (dq dt_X3_isNearer 14 rfl) rfl hl (by decide) rfl (fun ls hl => ?_)
    refine lv_iload_n hx hb (dq dt_X3_isNearer 15 rfl) rfl (lv_at hl 0 rfl) ?_
    refine lv_if_lt (tgt := 36) hx hb (dq dt_X3_isNearer 16 rfl) (by decide) (fun c6 => ?_) (fun c6 => ?_)
    · replace hF := if_t c6 hF
      refine lv_iconst (v := (1 : Int32)) hx hb (dq dt_X3_isNearer 22 rfl) (by decide) ?_
      refine lv_goto (tgt := 41) hx hb (dq dt_X3_isNearer 23 rfl) (by decide) ?_
      cases hF
      exact kRetZ hQ C rfl hw (dq dt_X3_isNearer 25 rfl)
    · replace hF := if_f c6 hF
      refine lv_iload_n hx hb (dq dt_X3_isNearer 17 rfl) rfl (lv_at hl 0 rfl) ?_
      refine lv_if_ne (tgt := 40) hx hb (dq dt_X3_isNearer 18 rfl) (by decide) (fun c7 => ?_) (fun c7 => ?_)
      · replace hF := if_f c7 hF
        refine lv_iconst (v := (0 : Int32)) hx hb (dq dt_X3_isNearer 24 rfl) (by decide) ?_
        cases hF
        exact kRetZ hQ C rfl hw (dq dt_X3_isNearer 25 rfl)
      · replace hF := if_t c7 hF
        refine lv_iload_n hx hb (dq dt_X3_isNearer 19 rfl) rfl (lv_at hl 2 rfl) ?_
        refine lv_iload_n hx hb (dq dt_X3_isNearer 20 rfl) rfl (lv_at hl 3 rfl) ?_
        refine lv_icmp_ge (tgt := 40) hx hb (dq dt_X3_isNearer 21 rfl) (by decide) (fun c8 => ?_) (fun c8 => ?_)
        · replace hF := if_t c8 hF
          refine lv_iconst (v := (0 : Int32)) hx hb (dq dt_X3_isNearer 24 rfl) (by decide) ?_
          cases hF
          exact kRetZ hQ C rfl hw (dq dt_X3_isNearer 25 rfl)
        · replace hF := if_f c8 hF
          refine lv_iconst (v := (1 : Int32)) hx hb (dq dt_X3_isNearer 22 rfl) (by decide) ?_
          refine lv_goto (tgt := 41) hx hb (dq dt_X3_isNearer 23 rfl) (by decide) ?_
          cases hF
          exact kRetZ hQ C rfl hw (dq dt_X3_isNearer 25 rfl)
  · replace hF := if_t c1 hF
    refine lv_iconst (v := (1 : Int32)) hx hb (dq dt_X3_isNearer 3 rfl) (by decide) ?_
    cases hF
    exact kRetZ hQ C rfl hw (dq dt_X3_isNearer 4 rfl)
def F_X3_toldBy (t_seeps : Int32) (t_seepYard : Nat → Int32) (t_kind : Nat → Int32) (t_ear : Nat → Int32) (n_hours : Int32) (n_filled : Int32) (n_yard : Nat → Int32) (p1 : Int32) : Option (Int32) :=
  rd 5 t_kind p1 (fun v1 => if v1 = (2 : Int32) then (rd 5 n_yard p1 (fun v25 => some v25)) else (zc1 (F_X3_heardBy t_seeps t_seepYard t_kind t_ear n_hours n_filled n_yard p1) (fun v4 => zl2 (fun x6 x7 ag8 => if t_seeps ≤ x7 then (some x6) else (zc1 (F_X8_hasBit v4 x7) (fun v10 => if v10 = 0 then (bd (x7 + (1 : Int32)) (fun v13 => ag8 x6 v13)) else (rd 5 n_yard p1 (fun v14 => rd 6 t_seepYard x7 (fun v16 => zc1 (F_X3_isNearer v14 v16 x6) (fun v18 => if v18 = 0 then (bd (x7 + (1 : Int32)) (fun v21 => ag8 x6 v21)) else (rd 6 t_seepYard x7 (fun v22 => bd (x7 + (1 : Int32)) (fun v24 => ag8 v22 v24)))))))))) FU (-1 : Int32) (0 : Int32))))
abbrev rm_X3_toldBy : Room := { frames := 4, cells := 0, slots := 0, locals := 108 }
theorem kd_X3_toldBy : yX3_toldBy.cls = RX3 ∧ yX3_toldBy.cls ≠ "java/lang/invoke/MethodHandle" ∧ yX3_toldBy.cls ≠ "java/lang/invoke/VarHandle" ∧ (parseMethodDescriptor yX3_toldBy.desc).map (fun d => d.parameters.length) = some 1 := by decide +kernel
set_option maxRecDepth 100000 in
set_option maxHeartbeats 4000000 in
theorem A_X3_toldBy (l : Launch) (D : va_G) (cB cI cJ cZ : ClassId) (ad : (Nat → Nat) × (Nat → Nat)) (a_t a_t_tides a_t_seepYard a_t_seepSize a_t_growth a_t_level a_t_kind a_t_childYard a_t_pace a_t_ear a_n a_n_size a_n_yard a_n_oranges : Nat) (t_yards : Int32) (t_seeps : Int32) (t_children : Int32) (t_seepYard : Nat → Int32) (t_kind : Nat → Int32) (t_ear : Nat → Int32) (n_hours : Int32) (n_filled : Int32) (n_toLesser : Int32) (n_yard : Nat → Int32) (p1 : Int32) (r : Int32) (hF : F_X3_toldBy t_seeps t_seepYard t_kind t_ear n_hours n_filled n_yard p1 = some r) : kM l yX3_toldBy (Cond.code yX3_toldBy cX3_toldBy 5 (some .int) :: W0) rm_X3_toldBy D (kT cB cI cJ cZ) ad [.ref a_n, .int p1] [(a_t, .inr (7, [.int t_yards, .ref a_t_tides, .int t_seeps, .ref a_t_seepYard, .ref a_t_seepSize, .ref a_t_growth, .ref a_t_level, .int t_children, .ref a_t_kind, .ref a_t_childYard, .ref a_t_pace, .ref a_t_ear])), (a_t_seepYard, .inl (cI, 6, .inl t_seepYard)), (a_t_kind, .inl (cI, 5, .inl t_kind)), (a_t_ear, .inl (cI, 5, .inl t_ear)), (a_n, .inr (3, [.ref a_t, .int n_hours, .int n_filled, .ref a_n_size, .ref a_n_yard, .int n_toLesser, .ref a_n_oranges])), (a_n_yard, .inl (cI, 5, .inl n_yard))] (some (.int r)) [(a_t, .inr (7, [.int t_yards, .ref a_t_tides, .int t_seeps, .ref a_t_seepYard, .ref a_t_seepSize, .ref a_t_growth, .ref a_t_level, .int t_children, .ref a_t_kind, .ref a_t_childYard, .ref a_t_pace, .ref a_t_ear])), (a_t_seepYard, .inl (cI, 6, .inl t_seepYard)), (a_t_kind, .inl (cI, 5, .inl t_kind)), (a_t_ear, .inl (cI, 5, .inl t_ear)), (a_n, .inr (3, [.ref a_t, .int n_hours, .int n_filled, .ref a_n_size, .ref a_n_yard, .int n_toLesser, .ref a_n_oranges])), (a_n_yard, .inl (cI, 5, .inl n_yard))] := by
  unfold F_X3_toldBy at hF
  refine kStart (lv := [(0, .ref a_n), (1, .int p1)]) (own := "DikeWatch$Night") (plainFor_of_name (by decide)) rfl (Nat.le_of_ble_eq_true rfl) rfl ?_
  intro p e s m args below meth c A Q ls hQ C hx hb hw hl
  refine lv_aload_n hx hb (dq dt_X3_toldBy 0 rfl) rfl (lv_at hl 0 rfl) ?_
  refine kGet (ci := 3) C in_X3 hw 4 rfl rfl 0 (by decide) (C.2.2.2.2.2.2.1 _ q1_119) rfl rfl (dq dt_X3_toldBy 1 rfl) ?_
  refine kGet (ci := 7) C in_X7 hw 0 rfl rfl 8 (by decide) (C.2.2.2.2.2.2.1 _ q1_79) rfl rfl (dq dt_X3_toldBy 2 rfl) ?_
  refine lv_iload_n hx hb (dq dt_X3_toldBy 3 rfl) rfl (lv_at hl 1 rfl) ?_
  obtain ⟨v1, ev1, hi2, hF⟩ := rd_ hF
  refine kIald C hw 2 1 rfl rfl hi2 ev1 (dq dt_X3_toldBy 4 rfl) ?_
  refine lv_iconst (v := (2 : Int32)) hx hb (dq dt_X3_toldBy 5 rfl) (by decide) ?_
  refine lv_icmp_ne (tgt := 20) hx hb (dq dt_X3_toldBy 6 rfl) (by decide) (fun c3 => ?_) (fun c3 => ?_)
  · replace hF := if_f c3 hF
    refine lv_aload_n hx hb (dq dt_X3_toldBy 12 rfl) rfl (lv_at hl 0 rfl) ?_
    refine lv_iload_n hx hb (dq dt_X3_toldBy 13 rfl) rfl (lv_at hl 1 rfl) ?_
    obtain ⟨v4, hr5, hF⟩ := zc1_ hF
    refine kCallVR C hw (A_X3_heardBy l D cB cI cJ cZ ad a_t a_t_tides a_t_seepYard a_t_seepSize a_t_growth a_t_level a_t_kind a_t_childYard a_t_pace a_t_ear a_n a_n_size a_n_yard a_n_oranges t_yards t_seeps t_children t_seepYard t_kind t_ear n_hours n_filled n_toLesser n_yard p1 v4 hr5) (cwV 1 C.2.2.2.2.2.2.1 (w0_V0 q3_45 q3_42 q3_43 q3_44 q1_4) rfl rfl rfl kd_X3_heardBy ⟨Nat.le_of_ble_eq_true rfl, Nat.le_of_ble_eq_true rfl⟩) [0, 1, 2, 3, 4, 5] rfl rfl 4 3 rfl rfl hl.1 rfl rfl rfl (Nat.le_of_ble_eq_true rfl) ⟨Nat.le_of_ble_eq_true rfl, Nat.le_of_ble_eq_true rfl⟩ (dq dt_X3_toldBy 14 rfl) (fun H locs hw => ?_)
    refine lv_istore_n (lv' := [(2, .int v4), (0, .ref a_n), (1, .int p1)]) hx hb (dq dt_X3_toldBy 15 rfl) rfl hl (by decide) rfl (fun ls hl => ?_)
    refine lv_iconst (v := (-1 : Int32)) hx hb (dq dt_X3_toldBy 16 rfl) (by decide) ?_
    refine lv_istore_n (lv' := [(3, .int (-1 : Int32)), (2, .int v4), (0, .ref a_n), (1, .int p1)]) hx hb (dq dt_X3_toldBy 17 rfl) rfl hl (by decide) rfl (fun ls hl => ?_)
    refine lv_iconst (v := (0 : Int32)) hx hb (dq dt_X3_toldBy 18 rfl) (by decide) ?_
    refine lv_istore (lv' := [(4, .int (0 : Int32)), (3, .int (-1 : Int32)), (2, .int v4), (0, .ref a_n), (1, .int p1)]) hx hb (dq dt_X3_toldBy 19 rfl) hl (by decide) rfl (fun ls hl => ?_)
    obtain ⟨K8, hK08, hK8, hF⟩ := zl2_ hF
    have L8 : ∀ (n : Nat) (x6 : Int32) (x7 : Int32), K8 n x6 x7 = some r → ∀ (H : Heap) (locs : List Loc) (ls : Array Slot), kW D A s.heap [(a_t, .inr (7, [.int t_yards, .ref a_t_tides, .int t_seeps, .ref a_t_seepYard, .ref a_t_seepSize, .ref a_t_growth, .ref a_t_level, .int t_children, .ref a_t_kind, .ref a_t_childYard, .ref a_t_pace, .ref a_t_ear])), (a_t_seepYard, .inl (cI, 6, .inl t_seepYard)), (a_t_kind, .inl (cI, 5, .inl t_kind)), (a_t_ear, .inl (cI, 5, .inl t_ear)), (a_n, .inr (3, [.ref a_t, .int n_hours, .int n_filled, .ref a_n_size, .ref a_n_yard, .int n_toLesser, .ref a_n_oranges])), (a_n_yard, .inl (cI, 5, .inl n_yard))] H locs → lv_has ls 5 [(0, .ref a_n), (1, .int p1), (2, .int v4), (3, .int x6), (4, .int x7)] → W p l e rm_X3_toldBy s m args below meth c H locs 0 0 Q (F0 m 31 ls []) := by
      intro n
      induction n with
      | zero => intro x6 x7 hF; exact (lp_no (hK08 x6 x7) hF).elim
      | succ n ih8 =>
        intro x6 x7 hF H locs ls hw hl
        replace hF := hK8 n x6 x7 hF
        refine lv_iload hx hb (dq dt_X3_toldBy 20 rfl) (lv_at hl 4 rfl) ?_
        refine lv_aload_n hx hb (dq dt_X3_toldBy 21 rfl) rfl (lv_at hl 0 rfl) ?_
        refine kGet (ci := 3) C in_X3 hw 4 rfl rfl 0 (by decide) (C.2.2.2.2.2.2.1 _ q1_119) rfl rfl (dq dt_X3_toldBy 22 rfl) ?_
        refine kGet (ci := 7) C in_X7 hw 0 rfl rfl 2 (by decide) (C.2.2.2.2.2.2.1 _ q1_60) rfl rfl (dq dt_X3_toldBy 23 rfl) ?_
        refine lv_icmp_ge (tgt := 92) hx hb (dq dt_X3_toldBy 24 rfl) (by decide) (fun c9 => ?_) (fun c9 => ?_)
        · replace hF := if_t c9 hF
          refine lv_iload_n hx hb (dq dt_X3_toldBy 49 rfl) rfl (lv_at hl 3 rfl) ?_
          cases hF
          exact kRetI hQ C hw (dq dt_X3_toldBy 50 rfl)
        · replace hF := if_f c9 hF
          refine lv_iload_n hx hb (dq dt_X3_toldBy 25 rfl) rfl (lv_at hl 2 rfl) ?_
          refine lv_iload hx hb (dq dt_X3_toldBy 26 rfl) (lv_at hl 4 rfl) ?_
          obtain ⟨v10, hr11, hF⟩ := zc1_ hF
          refine kCallSN C hw (A_X8_hasBit l D cB cI cJ cZ ad v4 x7 v10 hr11) ⟨va_cnB 2 C.2.2.2.2.2.2.1 (w0_all0 q3_18) rfl rfl rfl (C.2.2.2.2.2.2.2.2.1.1 _ (List.mem_of_getElem? (i := 5) rfl)) (C.2.2.2.2.2.2.1 _ q1_1) ke_X8_hasBit ⟨Nat.le_of_ble_eq_true rfl, Nat.le_of_ble_eq_true rfl⟩, (C.2.2.2.2.2.2.1 _ q3_17), trivial⟩ hl.1 rfl rfl rfl (Nat.le_of_ble_eq_true rfl) ⟨Nat.le_of_ble_eq_true rfl, Nat.le_of_ble_eq_true rfl⟩ (dq dt_X3_toldBy 27 rfl) (fun H locs hw => ?_)
          refine lv_if_eq (tgt := 86) hx hb (dq dt_X3_toldBy 28 rfl) (by decide) (fun c12 => ?_) (fun c12 => ?_)
          · replace hF := if_t c12 hF
            obtain ⟨v13, ev13, hF⟩ := bd_ hF
            refine lv_iinc (v := v13) (lv' := [(4, .int v13), (0, .ref a_n), (1, .int p1), (2, .int v4), (3, .int x6)]) hx hb (dq dt_X3_toldBy 47 rfl) hl (k := 4) rfl ev13.symm (by decide) rfl (fun ls hl => ?_)
            refine lv_goto (tgt := 31) hx hb (dq dt_X3_toldBy 48 rfl) (by decide) ?_
            exact ih8 x6 v13 hF _ _ _ hw (lv_sub hl [1, 2, 3, 4, 0] rfl)
          · replace hF := if_f c12 hF
            refine lv_aload_n hx hb (dq dt_X3_toldBy 29 rfl) rfl (lv_at hl 0 rfl) ?_
            refine kGet (ci := 3) C in_X3 hw 4 rfl rfl 4 (by decide) (C.2.2.2.2.2.2.1 _ q1_128) rfl rfl (dq dt_X3_toldBy 30 rfl) ?_
            refine lv_iload_n hx hb (dq dt_X3_toldBy 31 rfl) rfl (lv_at hl 1 rfl) ?_
            obtain ⟨v14, ev14, hi15, hF⟩ := rd_ hF
            refine kIald C hw 5 1 rfl rfl hi15 ev14 (dq dt_X3_toldBy 32 rfl) ?_
            refine lv_aload_n hx hb (dq dt_X3_toldBy 33 rfl) rfl (lv_at hl 0 rfl) ?_
            refine kGet (ci := 3) C in_X3 hw 4 rfl rfl 0 (by decide) (C.2.2.2.2.2.2.1 _ q1_119) rfl rfl (dq dt_X3_toldBy 34 rfl) ?_
            refine kGet (ci := 7) C in_X7 hw 0 rfl rfl 3 (by decide) (C.2.2.2.2.2.2.1 _ q1_65) rfl rfl (dq dt_X3_toldBy 35 rfl) ?_
            refine lv_iload hx hb (dq dt_X3_toldBy 36 rfl) (lv_at hl 4 rfl) ?_
            obtain ⟨v16, ev16, hi17, hF⟩ := rd_ hF
            refine kIald C hw 1 1 rfl rfl hi17 ev16 (dq dt_X3_toldBy 37 rfl) ?_
            refine lv_iload_n hx hb (dq dt_X3_toldBy 38 rfl) rfl (lv_at hl 3 rfl) ?_
            obtain ⟨v18, hr19, hF⟩ := zc1_ hF
            refine kCallSP C hw (A_X3_isNearer l D cB cI cJ cZ ad v14 v16 x6 v18 hr19) (va_cwS 3 C.2.2.2.2.2.2.1 (w0_S0 q3_60 q3_58 q3_59 q1_4) rfl rfl rfl ke_X3_isNearer ⟨Nat.le_of_ble_eq_true rfl, Nat.le_of_ble_eq_true rfl⟩) hl.1 rfl rfl rfl (Nat.le_of_ble_eq_true rfl) ⟨Nat.le_of_ble_eq_true rfl, Nat.le_of_ble_eq_true rfl⟩ (dq dt_X3_toldBy 39 rfl) (fun H locs hw => ?_)
            refine lv_if_eq (tgt := 86) hx hb (dq dt_X3_toldBy 40 rfl) (by decide) (fun c20 => ?_) (fun c20 => ?_)
            · replace hF := if_t c20 hF
              obtain ⟨v21, ev21, hF⟩ := bd_ hF
              refine lv_iinc (v := v21) (lv' := [(4, .int v21), (0, .ref a_n), (1, .int p1), (2, .int v4), (3, .int x6)]) hx hb (dq dt_X3_toldBy 47 rfl) hl (k := 4) rfl ev21.symm (by decide) rfl (fun ls hl => ?_)
              refine lv_goto (tgt := 31) hx hb (dq dt_X3_toldBy 48 rfl) (by decide) ?_
              exact ih8 x6 v21 hF _ _ _ hw (lv_sub hl [1, 2, 3, 4, 0] rfl)
            · replace hF := if_f c20 hF
              refine lv_aload_n hx hb (dq dt_X3_toldBy 41 rfl) rfl (lv_at hl 0 rfl) ?_
              refine kGet (ci := 3) C in_X3 hw 4 rfl rfl 0 (by decide) (C.2.2.2.2.2.2.1 _ q1_119) rfl rfl (dq dt_X3_toldBy 42 rfl) ?_
              refine kGet (ci := 7) C in_X7 hw 0 rfl rfl 3 (by decide) (C.2.2.2.2.2.2.1 _ q1_65) rfl rfl (dq dt_X3_toldBy 43 rfl) ?_
              refine lv_iload hx hb (dq dt_X3_toldBy 44 rfl) (lv_at hl 4 rfl) ?_
              obtain ⟨v22, ev22, hi23, hF⟩ := rd_ hF
              refine kIald C hw 1 1 rfl rfl hi23 ev22 (dq dt_X3_toldBy 45 rfl) ?_
              refine lv_istore_n (lv' := [(3, .int v22), (0, .ref a_n), (1, .int p1), (2, .int v4), (4, .int x7)]) hx hb (dq dt_X3_toldBy 46 rfl) rfl hl (by decide) rfl (fun ls hl => ?_)
              obtain ⟨v24, ev24, hF⟩ := bd_ hF
              refine lv_iinc (v := v24) (lv' := [(4, .int v24), (3, .int v22), (0, .ref a_n), (1, .int p1), (2, .int v4)]) hx hb (dq dt_X3_toldBy 47 rfl) hl (k := 4) rfl ev24.symm (by decide) rfl (fun ls hl => ?_)
              refine lv_goto (tgt := 31) hx hb (dq dt_X3_toldBy 48 rfl) (by decide) ?_
              exact ih8 v22 v24 hF _ _ _ hw (lv_sub hl [2, 3, 4, 1, 0] rfl)
    exact L8 _ (-1 : Int32) (0 : Int32) hF _ _ _ hw (lv_sub hl [3, 4, 2, 1, 0] rfl)
  · replace hF := if_t c3 hF
    refine lv_aload_n hx hb (dq dt_X3_toldBy 7 rfl) rfl (lv_at hl 0 rfl) ?_
    refine kGet (ci := 3) C in_X3 hw 4 rfl rfl 4 (by decide) (C.2.2.2.2.2.2.1 _ q1_128) rfl rfl (dq dt_X3_toldBy 8 rfl) ?_
    refine lv_iload_n hx hb (dq dt_X3_toldBy 9 rfl) rfl (lv_at hl 1 rfl) ?_
    obtain ⟨v25, ev25, hi26, hF⟩ := rd_ hF
    refine kIald C hw 5 1 rfl rfl hi26 ev25 (dq dt_X3_toldBy 10 rfl) ?_
    cases hF
    exact kRetI hQ C hw (dq dt_X3_toldBy 11 rfl)
def F_X8_child (t_seeps : Int32) (t_children : Int32) (t_seepYard : Nat → Int32) (t_kind : Nat → Int32) (t_pace : Nat → Int32) (t_ear : Nat → Int32) (n_hours : Int32) (n_filled : Int32) (n_toLesser : Int32) (n_yard : Nat → Int32) (n_oranges : Nat → Int32) (p1 : Int32) (p2 : Int32) : Option (Int32) :=
  zc1 (F_X7_hasChild t_children p1) (fun v1 => if v1 = 0 then (some (-2 : Int32)) else (if p2 = (0 : Int32) then (rd 5 t_kind p1 (fun v5 => some v5)) else (if p2 = (1 : Int32) then (rd 5 n_yard p1 (fun v8 => some v8)) else (if p2 = (2 : Int32) then (rd 5 t_pace p1 (fun v11 => some v11)) else (if p2 = (3 : Int32) then (zc1 (F_X3_earOf t_kind t_ear n_hours p1) (fun v14 => some v14)) else (if p2 = (4 : Int32) then (zc1 (F_X3_goesToLesser n_toLesser p1) (fun v17 => if v17 = 0 then (some (0 : Int32)) else (some (1 : Int32)))) else (if p2 = (5 : Int32) then (rd 5 n_oranges p1 (fun v21 => some v21)) else (if p2 = (6 : Int32) then (zc1 (F_X3_toldBy t_seeps t_seepYard t_kind t_ear n_hours n_filled n_yard p1) (fun v24 => some v24)) else (some (-3 : Int32))))))))))
abbrev rm_X8_child : Room := { frames := 5, cells := 0, slots := 0, locals := 132 }
theorem kd_X8_child : yX8_child.cls = RX8 ∧ yX8_child.cls ≠ "java/lang/invoke/MethodHandle" ∧ yX8_child.cls ≠ "java/lang/invoke/VarHandle" ∧ (parseMethodDescriptor yX8_child.desc).map (fun d => d.parameters.length) = some 2 := by decide +kernel
set_option maxRecDepth 100000 in
set_option maxHeartbeats 4000000 in
theorem A_X8_child (l : Launch) (D : va_G) (cB cI cJ cZ : ClassId) (ad : (Nat → Nat) × (Nat → Nat)) (a_d a_x a_t a_g a_r a_n a_k a_j a_f a_e a_z a_c a_t_tides a_t_seepYard a_t_seepSize a_t_growth a_t_level a_t_kind a_t_childYard a_t_pace a_t_ear a_n_size a_n_yard a_n_oranges : Nat) (d_keptBits : Int32) (t_yards : Int32) (t_seeps : Int32) (t_children : Int32) (t_seepYard : Nat → Int32) (t_kind : Nat → Int32) (t_pace : Nat → Int32) (t_ear : Nat → Int32) (n_hours : Int32) (n_filled : Int32) (n_toLesser : Int32) (n_yard : Nat → Int32) (n_oranges : Nat → Int32) (p1 : Int32) (p2 : Int32) (r : Int32) (hF : F_X8_child t_seeps t_children t_seepYard t_kind t_pace t_ear n_hours n_filled n_toLesser n_yard n_oranges p1 p2 = some r) : kM l yX8_child (Cond.code yX8_child cX8_child 3 (some .int) :: W0) rm_X8_child D (kT cB cI cJ cZ) ad [.ref a_d, .int p1, .int p2] [(a_d, .inr (8, [.ref a_x, .ref a_t, .ref a_g, .ref a_r, .ref a_n, .ref a_k, .ref a_j, .int d_keptBits, .ref a_f, .ref a_e, .ref a_z, .ref a_c])), (a_t, .inr (7, [.int t_yards, .ref a_t_tides, .int t_seeps, .ref a_t_seepYard, .ref a_t_seepSize, .ref a_t_growth, .ref a_t_level, .int t_children, .ref a_t_kind, .ref a_t_childYard, .ref a_t_pace, .ref a_t_ear])), (a_t_seepYard, .inl (cI, 6, .inl t_seepYard)), (a_t_kind, .inl (cI, 5, .inl t_kind)), (a_t_pace, .inl (cI, 5, .inl t_pace)), (a_t_ear, .inl (cI, 5, .inl t_ear)), (a_n, .inr (3, [.ref a_t, .int n_hours, .int n_filled, .ref a_n_size, .ref a_n_yard, .int n_toLesser, .ref a_n_oranges])), (a_n_yard, .inl (cI, 5, .inl n_yard)), (a_n_oranges, .inl (cI, 5, .inl n_oranges))] (some (.int r)) [(a_d, .inr (8, [.ref a_x, .ref a_t, .ref a_g, .ref a_r, .ref a_n, .ref a_k, .ref a_j, .int d_keptBits, .ref a_f, .ref a_e, .ref a_z, .ref a_c])), (a_t, .inr (7, [.int t_yards, .ref a_t_tides, .int t_seeps, .ref a_t_seepYard, .ref a_t_seepSize, .ref a_t_growth, .ref a_t_level, .int t_children, .ref a_t_kind, .ref a_t_childYard, .ref a_t_pace, .ref a_t_ear])), (a_t_seepYard, .inl (cI, 6, .inl t_seepYard)), (a_t_kind, .inl (cI, 5, .inl t_kind)), (a_t_pace, .inl (cI, 5, .inl t_pace)), (a_t_ear, .inl (cI, 5, .inl t_ear)), (a_n, .inr (3, [.ref a_t, .int n_hours, .int n_filled, .ref a_n_size, .ref a_n_yard, .int n_toLesser, .ref a_n_oranges])), (a_n_yard, .inl (cI, 5, .inl n_yard)), (a_n_oranges, .inl (cI, 5, .inl n_oranges))] := by
  unfold F_X8_child at hF
  refine kStart (lv := [(0, .ref a_d), (1, .int p1), (2, .int p2)]) (own := "DikeWatch") (plainFor_of_name (by decide)) rfl (Nat.le_of_ble_eq_true rfl) rfl ?_
  intro p e s m args below meth c A Q ls hQ C hx hb hw hl
  refine lv_aload_n hx hb (dq dt_X8_child 0 rfl) rfl (lv_at hl 0 rfl) ?_
  refine kGet (ci := 8) C in_X8 hw 0 rfl rfl 1 (by decide) (C.2.2.2.2.2.2.1 _ q2_23) rfl rfl (dq dt_X8_child 1 rfl) ?_
  refine lv_iload_n hx hb (dq dt_X8_child 2 rfl) rfl (lv_at hl 1 rfl) ?_
  obtain ⟨v1, hr2, hF⟩ := zc1_ hF
  refine kCallVR C hw (A_X7_hasChild l D cB cI cJ cZ ad a_t a_t_tides a_t_seepYard a_t_seepSize a_t_growth a_t_level a_t_kind a_t_childYard a_t_pace a_t_ear t_yards t_seeps t_children p1 v1 hr2) (cwV 1 C.2.2.2.2.2.2.1 (w0_V0 q3_26 q3_23 q3_24 q3_25 q1_3) rfl rfl rfl kd_X7_hasChild ⟨Nat.le_of_ble_eq_true rfl, Nat.le_of_ble_eq_true rfl⟩) [1] rfl rfl 1 7 rfl rfl hl.1 rfl rfl rfl (Nat.le_of_ble_eq_true rfl) ⟨Nat.le_of_ble_eq_true rfl, Nat.le_of_ble_eq_true rfl⟩ (dq dt_X8_child 3 rfl) (fun H locs hw => ?_)
  refine lv_if_ne (tgt := 14) hx hb (dq dt_X8_child 4 rfl) (by decide) (fun c3 => ?_) (fun c3 => ?_)
  · replace hF := if_f c3 hF
    refine lv_iload_n hx hb (dq dt_X8_child 7 rfl) rfl (lv_at hl 2 rfl) ?_
    by_cases c4 : p2 = (0 : Int32)
    · replace hF := if_t c4 hF
      refine lv_tableIn (lo := 0) (hi := 6) (tgt := 56) hx hb (dq dt_X8_child 8 rfl) (by rw [c4]; decide) (by rw [c4]; decide) (by rw [c4]; rfl) (by decide) ?_
      refine lv_aload_n hx hb (dq dt_X8_child 9 rfl) rfl (lv_at hl 0 rfl) ?_
      refine kGet (ci := 8) C in_X8 hw 0 rfl rfl 1 (by decide) (C.2.2.2.2.2.2.1 _ q2_23) rfl rfl (dq dt_X8_child 10 rfl) ?_
      refine kGet (ci := 7) C in_X7 hw 1 rfl rfl 8 (by decide) (C.2.2.2.2.2.2.1 _ q1_78) rfl rfl (dq dt_X8_child 11 rfl) ?_
      refine lv_iload_n hx hb (dq dt_X8_child 12 rfl) rfl (lv_at hl 1 rfl) ?_
      obtain ⟨v5, ev5, hi6, hF⟩ := rd_ hF
      refine kIald C hw 3 1 rfl rfl hi6 ev5 (dq dt_X8_child 13 rfl) ?_
      cases hF
      exact kRetI hQ C hw (dq dt_X8_child 14 rfl)
    replace hF := if_f c4 hF
    by_cases c7 : p2 = (1 : Int32)
    · replace hF := if_t c7 hF
      refine lv_tableIn (lo := 0) (hi := 6) (tgt := 66) hx hb (dq dt_X8_child 8 rfl) (by rw [c7]; decide) (by rw [c7]; decide) (by rw [c7]; rfl) (by decide) ?_
      refine lv_aload_n hx hb (dq dt_X8_child 15 rfl) rfl (lv_at hl 0 rfl) ?_
      refine kGet (ci := 8) C in_X8 hw 0 rfl rfl 4 (by decide) (C.2.2.2.2.2.2.1 _ q2_26) rfl rfl (dq dt_X8_child 16 rfl) ?_
      refine kGet (ci := 3) C in_X3 hw 6 rfl rfl 4 (by decide) (C.2.2.2.2.2.2.1 _ q1_129) rfl rfl (dq dt_X8_child 17 rfl) ?_
      refine lv_iload_n hx hb (dq dt_X8_child 18 rfl) rfl (lv_at hl 1 rfl) ?_
      obtain ⟨v8, ev8, hi9, hF⟩ := rd_ hF
      refine kIald C hw 7 1 rfl rfl hi9 ev8 (dq dt_X8_child 19 rfl) ?_
      cases hF
      exact kRetI hQ C hw (dq dt_X8_child 20 rfl)
    replace hF := if_f c7 hF
    by_cases c10 : p2 = (2 : Int32)
    · replace hF := if_t c10 hF
      refine lv_tableIn (lo := 0) (hi := 6) (tgt := 76) hx hb (dq dt_X8_child 8 rfl) (by rw [c10]; decide) (by rw [c10]; decide) (by rw [c10]; rfl) (by decide) ?_
      refine lv_aload_n hx hb (dq dt_X8_child 21 rfl) rfl (lv_at hl 0 rfl) ?_
      refine kGet (ci := 8) C in_X8 hw 0 rfl rfl 1 (by decide) (C.2.2.2.2.2.2.1 _ q2_23) rfl rfl (dq dt_X8_child 22 rfl) ?_
      refine kGet (ci := 7) C in_X7 hw 1 rfl rfl 10 (by decide) (C.2.2.2.2.2.2.1 _ q1_84) rfl rfl (dq dt_X8_child 23 rfl) ?_
      refine lv_iload_n hx hb (dq dt_X8_child 24 rfl) rfl (lv_at hl 1 rfl) ?_
      obtain ⟨v11, ev11, hi12, hF⟩ := rd_ hF
      refine kIald C hw 4 1 rfl rfl hi12 ev11 (dq dt_X8_child 25 rfl) ?_
      cases hF
      exact kRetI hQ C hw (dq dt_X8_child 26 rfl)
    replace hF := if_f c10 hF
    by_cases c13 : p2 = (3 : Int32)
    · replace hF := if_t c13 hF
      refine lv_tableIn (lo := 0) (hi := 6) (tgt := 86) hx hb (dq dt_X8_child 8 rfl) (by rw [c13]; decide) (by rw [c13]; decide) (by rw [c13]; rfl) (by decide) ?_
      refine lv_aload_n hx hb (dq dt_X8_child 27 rfl) rfl (lv_at hl 0 rfl) ?_
      refine kGet (ci := 8) C in_X8 hw 0 rfl rfl 4 (by decide) (C.2.2.2.2.2.2.1 _ q2_26) rfl rfl (dq dt_X8_child 28 rfl) ?_
      refine lv_iload_n hx hb (dq dt_X8_child 29 rfl) rfl (lv_at hl 1 rfl) ?_
      obtain ⟨v14, hr15, hF⟩ := zc1_ hF
      refine kCallVR C hw (A_X3_earOf l D cB cI cJ cZ ad a_t a_t_tides a_t_seepYard a_t_seepSize a_t_growth a_t_level a_t_kind a_t_childYard a_t_pace a_t_ear a_n a_n_size a_n_yard a_n_oranges t_yards t_seeps t_children t_kind t_ear n_hours n_filled n_toLesser p1 v14 hr15) (cwV 1 C.2.2.2.2.2.2.1 (w0_V0 q3_30 q3_27 q3_28 q3_29 q1_4) rfl rfl rfl kd_X3_earOf ⟨Nat.le_of_ble_eq_true rfl, Nat.le_of_ble_eq_true rfl⟩) [1, 3, 5, 6] rfl rfl 6 3 rfl rfl hl.1 rfl rfl rfl (Nat.le_of_ble_eq_true rfl) ⟨Nat.le_of_ble_eq_true rfl, Nat.le_of_ble_eq_true rfl⟩ (dq dt_X8_child 30 rfl) (fun H locs hw => ?_)
      cases hF
      exact kRetI hQ C hw (dq dt_X8_child 31 rfl)
    replace hF := if_f c13 hF
    by_cases c16 : p2 = (4 : Int32)
    · replace hF := if_t c16 hF
      refine lv_tableIn (lo := 0) (hi := 6) (tgt := 95) hx hb (dq dt_X8_child 8 rfl) (by rw [c16]; decide) (by rw [c16]; decide) (by rw [c16]; rfl) (by decide) ?_
      refine lv_aload_n hx hb (dq dt_X8_child 32 rfl) rfl (lv_at hl 0 rfl) ?_
      refine kGet (ci := 8) C in_X8 hw 0 rfl rfl 4 (by decide) (C.2.2.2.2.2.2.1 _ q2_26) rfl rfl (dq dt_X8_child 33 rfl) ?_
      refine lv_iload_n hx hb (dq dt_X8_child 34 rfl) rfl (lv_at hl 1 rfl) ?_
      obtain ⟨v17, hr18, hF⟩ := zc1_ hF
      refine kCallVR C hw (A_X3_goesToLesser l D cB cI cJ cZ ad a_n a_t a_n_size a_n_yard a_n_oranges n_hours n_filled n_toLesser p1 v17 hr18) (cwV 1 C.2.2.2.2.2.2.1 (w0_V0 q3_37 q3_34 q3_35 q3_36 q1_4) rfl rfl rfl kd_X3_goesToLesser ⟨Nat.le_of_ble_eq_true rfl, Nat.le_of_ble_eq_true rfl⟩) [6] rfl rfl 6 3 rfl rfl hl.1 rfl rfl rfl (Nat.le_of_ble_eq_true rfl) ⟨Nat.le_of_ble_eq_true rfl, Nat.le_of_ble_eq_true rfl⟩ (dq dt_X8_child 35 rfl) (fun H locs hw => ?_)
      refine lv_if_eq (tgt := 110) hx hb (dq dt_X8_child 36 rfl) (by decide) (fun c19 => ?_) (fun c19 => ?_)
      · replace hF := if_t c19 hF
        refine lv_iconst (v := (0 : Int32)) hx hb (dq dt_X8_child 39 rfl) (by decide) ?_
        cases hF
        exact kRetI hQ C hw (dq dt_X8_child 40 rfl)
      · replace hF := if_f c19 hF
        refine lv_iconst (v := (1 : Int32)) hx hb (dq dt_X8_child 37 rfl) (by decide) ?_
        refine lv_goto (tgt := 111) hx hb (dq dt_X8_child 38 rfl) (by decide) ?_
        cases hF
        exact kRetI hQ C hw (dq dt_X8_child 40 rfl)
    replace hF := if_f c16 hF
    by_cases c20 : p2 = (5 : Int32)
    · replace hF := if_t c20 hF
      refine lv_tableIn (lo := 0) (hi := 6) (tgt := 112) hx hb (dq dt_X8_child 8 rfl) (by rw [c20]; decide) (by rw [c20]; decide) (by rw [c20]; rfl) (by decide) ?_
      refine lv_aload_n hx hb (dq dt_X8_child 41 rfl) rfl (lv_at hl 0 rfl) ?_
      refine kGet (ci := 8) C in_X8 hw 0 rfl rfl 4 (by decide) (C.2.2.2.2.2.2.1 _ q2_26) rfl rfl (dq dt_X8_child 42 rfl) ?_
      refine kGet (ci := 3) C in_X3 hw 6 rfl rfl 6 (by decide) (C.2.2.2.2.2.2.1 _ q1_132) rfl rfl (dq dt_X8_child 43 rfl) ?_
      refine lv_iload_n hx hb (dq dt_X8_child 44 rfl) rfl (lv_at hl 1 rfl) ?_
      obtain ⟨v21, ev21, hi22, hF⟩ := rd_ hF
      refine kIald C hw 8 1 rfl rfl hi22 ev21 (dq dt_X8_child 45 rfl) ?_
      cases hF
      exact kRetI hQ C hw (dq dt_X8_child 46 rfl)
    replace hF := if_f c20 hF
    by_cases c23 : p2 = (6 : Int32)
    · replace hF := if_t c23 hF
      refine lv_tableIn (lo := 0) (hi := 6) (tgt := 122) hx hb (dq dt_X8_child 8 rfl) (by rw [c23]; decide) (by rw [c23]; decide) (by rw [c23]; rfl) (by decide) ?_
      refine lv_aload_n hx hb (dq dt_X8_child 47 rfl) rfl (lv_at hl 0 rfl) ?_
      refine kGet (ci := 8) C in_X8 hw 0 rfl rfl 4 (by decide) (C.2.2.2.2.2.2.1 _ q2_26) rfl rfl (dq dt_X8_child 48 rfl) ?_
      refine lv_iload_n hx hb (dq dt_X8_child 49 rfl) rfl (lv_at hl 1 rfl) ?_
      obtain ⟨v24, hr25, hF⟩ := zc1_ hF
      refine kCallVR C hw (A_X3_toldBy l D cB cI cJ cZ ad a_t a_t_tides a_t_seepYard a_t_seepSize a_t_growth a_t_level a_t_kind a_t_childYard a_t_pace a_t_ear a_n a_n_size a_n_yard a_n_oranges t_yards t_seeps t_children t_seepYard t_kind t_ear n_hours n_filled n_toLesser n_yard p1 v24 hr25) (cwV 1 C.2.2.2.2.2.2.1 (w0_V0 q3_41 q3_38 q3_39 q3_40 q1_4) rfl rfl rfl kd_X3_toldBy ⟨Nat.le_of_ble_eq_true rfl, Nat.le_of_ble_eq_true rfl⟩) [1, 2, 3, 5, 6, 7] rfl rfl 6 3 rfl rfl hl.1 rfl rfl rfl (Nat.le_of_ble_eq_true rfl) ⟨Nat.le_of_ble_eq_true rfl, Nat.le_of_ble_eq_true rfl⟩ (dq dt_X8_child 50 rfl) (fun H locs hw => ?_)
      cases hF
      exact kRetI hQ C hw (dq dt_X8_child 51 rfl)
    replace hF := if_f c23 hF
    refine lv_tableOut (lo := 0) (hi := 6) (tgt := 131) hx hb (dq dt_X8_child 8 rfl) (tb_out (n := 7) (by decide) (fun i hi => by match i, hi with | 0, _ => exact c4 | 1, _ => exact c7 | 2, _ => exact c10 | 3, _ => exact c13 | 4, _ => exact c16 | 5, _ => exact c20 | 6, _ => exact c23 | i + 7, hi => exact absurd hi (by omega))) (by decide) ?_
    refine lv_bipush (v := (-3 : Int32)) hx hb (dq dt_X8_child 52 rfl) (by decide) ?_
    cases hF
    exact kRetI hQ C hw (dq dt_X8_child 53 rfl)
  · replace hF := if_t c3 hF
    refine lv_bipush (v := (-2 : Int32)) hx hb (dq dt_X8_child 5 rfl) (by decide) ?_
    cases hF
    exact kRetI hQ C hw (dq dt_X8_child 6 rfl)
def F_X8_isOfKind (p1 : Int32) (p2 : Int32) : Option (Int32) :=
  if p2 = 0 then (some (1 : Int32)) else (if p2 = (p1 + (1 : Int32)) then (some (1 : Int32)) else (if p2 = (1 : Int32) then (if p1 = (1 : Int32) then (some (1 : Int32)) else (some (0 : Int32))) else (some (0 : Int32))))
abbrev rm_X8_isOfKind : Room := { frames := 0, cells := 0, slots := 0, locals := 0 }
theorem ke_X8_isOfKind : yX8_isOfKind.cls ≠ "java/lang/invoke/MethodHandle" ∧ yX8_isOfKind.cls ≠ "java/lang/invoke/VarHandle" ∧ (parseMethodDescriptor yX8_isOfKind.desc).map (fun d => d.parameters.length) = some 2 := by decide +kernel
set_option maxRecDepth 100000 in
set_option maxHeartbeats 4000000 in
theorem A_X8_isOfKind (l : Launch) (D : va_G) (cB cI cJ cZ : ClassId) (ad : (Nat → Nat) × (Nat → Nat)) (p1 : Int32) (p2 : Int32) (r : Int32) (hF : F_X8_isOfKind p1 p2 = some r) : kM l yX8_isOfKind (Cond.code yX8_isOfKind cX8_isOfKind 2 (some .boolean) :: W0) rm_X8_isOfKind D (kT cB cI cJ cZ) ad [.int p1, .int p2] [] (some (.int r)) [] := by
  unfold F_X8_isOfKind at hF
  refine kStart (lv := [(0, .int p1), (1, .int p2)]) (own := "DikeWatch") (plainFor_of_name (by decide)) rfl (Nat.le_of_ble_eq_true rfl) rfl ?_
  intro p e s m args below meth c A Q ls hQ C hx hb hw hl
  refine lv_iload_n hx hb (dq dt_X8_isOfKind 0 rfl) rfl (lv_at hl 1 rfl) ?_
  refine lv_if_eq (tgt := 21) hx hb (dq dt_X8_isOfKind 1 rfl) (by decide) (fun c1 => ?_) (fun c1 => ?_)
  · replace hF := if_t c1 hF
    refine lv_iconst (v := (1 : Int32)) hx hb (dq dt_X8_isOfKind 13 rfl) (by decide) ?_
    refine lv_goto (tgt := 26) hx hb (dq dt_X8_isOfKind 14 rfl) (by decide) ?_
    cases hF
    exact kRetZ hQ C rfl hw (dq dt_X8_isOfKind 16 rfl)
  · replace hF := if_f c1 hF
    refine lv_iload_n hx hb (dq dt_X8_isOfKind 2 rfl) rfl (lv_at hl 1 rfl) ?_
    refine lv_iload_n hx hb (dq dt_X8_isOfKind 3 rfl) rfl (lv_at hl 0 rfl) ?_
    refine lv_iconst (v := (1 : Int32)) hx hb (dq dt_X8_isOfKind 4 rfl) (by decide) ?_
    refine lv_iadd hx hb (dq dt_X8_isOfKind 5 rfl) ?_
    refine lv_icmp_eq (tgt := 21) hx hb (dq dt_X8_isOfKind 6 rfl) (by decide) (fun c2 => ?_) (fun c2 => ?_)
    · replace hF := if_t c2 hF
      refine lv_iconst (v := (1 : Int32)) hx hb (dq dt_X8_isOfKind 13 rfl) (by decide) ?_
      refine lv_goto (tgt := 26) hx hb (dq dt_X8_isOfKind 14 rfl) (by decide) ?_
      cases hF
      exact kRetZ hQ C rfl hw (dq dt_X8_isOfKind 16 rfl)
    · replace hF := if_f c2 hF
      refine lv_iload_n hx hb (dq dt_X8_isOfKind 7 rfl) rfl (lv_at hl 1 rfl) ?_
      refine lv_iconst (v := (1 : Int32)) hx hb (dq dt_X8_isOfKind 8 rfl) (by decide) ?_
      refine lv_icmp_ne (tgt := 25) hx hb (dq dt_X8_isOfKind 9 rfl) (by decide) (fun c3 => ?_) (fun c3 => ?_)
      · replace hF := if_f c3 hF
        refine lv_iconst (v := (0 : Int32)) hx hb (dq dt_X8_isOfKind 15 rfl) (by decide) ?_
        cases hF
        exact kRetZ hQ C rfl hw (dq dt_X8_isOfKind 16 rfl)
      · replace hF := if_t c3 hF
        refine lv_iload_n hx hb (dq dt_X8_isOfKind 10 rfl) rfl (lv_at hl 0 rfl) ?_
        refine lv_iconst (v := (1 : Int32)) hx hb (dq dt_X8_isOfKind 11 rfl) (by decide) ?_
        refine lv_icmp_ne (tgt := 25) hx hb (dq dt_X8_isOfKind 12 rfl) (by decide) (fun c4 => ?_) (fun c4 => ?_)
        · replace hF := if_f c4 hF
          refine lv_iconst (v := (0 : Int32)) hx hb (dq dt_X8_isOfKind 15 rfl) (by decide) ?_
          cases hF
          exact kRetZ hQ C rfl hw (dq dt_X8_isOfKind 16 rfl)
        · replace hF := if_t c4 hF
          refine lv_iconst (v := (1 : Int32)) hx hb (dq dt_X8_isOfKind 13 rfl) (by decide) ?_
          refine lv_goto (tgt := 26) hx hb (dq dt_X8_isOfKind 14 rfl) (by decide) ?_
          cases hF
          exact kRetZ hQ C rfl hw (dq dt_X8_isOfKind 16 rfl)
def F_X8_as (t_seeps : Int32) (t_children : Int32) (t_seepYard : Nat → Int32) (t_kind : Nat → Int32) (t_ear : Nat → Int32) (n_hours : Int32) (n_filled : Int32) (n_yard : Nat → Int32) (p1 : Int32) (p2 : Int32) : Option (Int32) :=
  zc1 (F_X7_hasChild t_children p1) (fun v1 => if v1 = 0 then (some (-2 : Int32)) else (zc1 (F_X8_isWithin p2 (0 : Int32) (4 : Int32)) (fun v4 => if v4 = 0 then (some (-3 : Int32)) else (rd 5 t_kind p1 (fun v7 => zc1 (F_X8_isOfKind v7 p2) (fun v9 => if v9 = 0 then (some (-4 : Int32)) else (zc1 (F_X3_heardBy t_seeps t_seepYard t_kind t_ear n_hours n_filled n_yard p1) (fun v12 => some v12))))))))
abbrev rm_X8_as : Room := { frames := 4, cells := 0, slots := 0, locals := 108 }
theorem kd_X8_as : yX8_as.cls = RX8 ∧ yX8_as.cls ≠ "java/lang/invoke/MethodHandle" ∧ yX8_as.cls ≠ "java/lang/invoke/VarHandle" ∧ (parseMethodDescriptor yX8_as.desc).map (fun d => d.parameters.length) = some 2 := by decide +kernel
set_option maxRecDepth 100000 in
set_option maxHeartbeats 4000000 in
theorem A_X8_as (l : Launch) (D : va_G) (cB cI cJ cZ : ClassId) (ad : (Nat → Nat) × (Nat → Nat)) (a_d a_x a_t a_g a_r a_n a_k a_j a_f a_e a_z a_c a_t_tides a_t_seepYard a_t_seepSize a_t_growth a_t_level a_t_kind a_t_childYard a_t_pace a_t_ear a_n_size a_n_yard a_n_oranges : Nat) (d_keptBits : Int32) (t_yards : Int32) (t_seeps : Int32) (t_children : Int32) (t_seepYard : Nat → Int32) (t_kind : Nat → Int32) (t_ear : Nat → Int32) (n_hours : Int32) (n_filled : Int32) (n_toLesser : Int32) (n_yard : Nat → Int32) (p1 : Int32) (p2 : Int32) (r : Int32) (hF : F_X8_as t_seeps t_children t_seepYard t_kind t_ear n_hours n_filled n_yard p1 p2 = some r) : kM l yX8_as (Cond.code yX8_as cX8_as 3 (some .int) :: W0) rm_X8_as D (kT cB cI cJ cZ) ad [.ref a_d, .int p1, .int p2] [(a_d, .inr (8, [.ref a_x, .ref a_t, .ref a_g, .ref a_r, .ref a_n, .ref a_k, .ref a_j, .int d_keptBits, .ref a_f, .ref a_e, .ref a_z, .ref a_c])), (a_t, .inr (7, [.int t_yards, .ref a_t_tides, .int t_seeps, .ref a_t_seepYard, .ref a_t_seepSize, .ref a_t_growth, .ref a_t_level, .int t_children, .ref a_t_kind, .ref a_t_childYard, .ref a_t_pace, .ref a_t_ear])), (a_t_seepYard, .inl (cI, 6, .inl t_seepYard)), (a_t_kind, .inl (cI, 5, .inl t_kind)), (a_t_ear, .inl (cI, 5, .inl t_ear)), (a_n, .inr (3, [.ref a_t, .int n_hours, .int n_filled, .ref a_n_size, .ref a_n_yard, .int n_toLesser, .ref a_n_oranges])), (a_n_yard, .inl (cI, 5, .inl n_yard))] (some (.int r)) [(a_d, .inr (8, [.ref a_x, .ref a_t, .ref a_g, .ref a_r, .ref a_n, .ref a_k, .ref a_j, .int d_keptBits, .ref a_f, .ref a_e, .ref a_z, .ref a_c])), (a_t, .inr (7, [.int t_yards, .ref a_t_tides, .int t_seeps, .ref a_t_seepYard, .ref a_t_seepSize, .ref a_t_growth, .ref a_t_level, .int t_children, .ref a_t_kind, .ref a_t_childYard, .ref a_t_pace, .ref a_t_ear])), (a_t_seepYard, .inl (cI, 6, .inl t_seepYard)), (a_t_kind, .inl (cI, 5, .inl t_kind)), (a_t_ear, .inl (cI, 5, .inl t_ear)), (a_n, .inr (3, [.ref a_t, .int n_hours, .int n_filled, .ref a_n_size, .ref a_n_yard, .int n_toLesser, .ref a_n_oranges])), (a_n_yard, .inl (cI, 5, .inl n_yard))] := by
  unfold F_X8_as at hF
  refine kStart (lv := [(0, .ref a_d), (1, .int p1), (2, .int p2)]) (own := "DikeWatch") (plainFor_of_name (by decide)) rfl (Nat.le_of_ble_eq_true rfl) rfl ?_
  intro p e s m args below meth c A Q ls hQ C hx hb hw hl
  refine lv_aload_n hx hb (dq dt_X8_as 0 rfl) rfl (lv_at hl 0 rfl) ?_
  refine kGet (ci := 8) C in_X8 hw 0 rfl rfl 1 (by decide) (C.2.2.2.2.2.2.1 _ q2_23) rfl rfl (dq dt_X8_as 1 rfl) ?_
  refine lv_iload_n hx hb (dq dt_X8_as 2 rfl) rfl (lv_at hl 1 rfl) ?_
  obtain ⟨v1, hr2, hF⟩ := zc1_ hF
  refine kCallVR C hw (A_X7_hasChild l D cB cI cJ cZ ad a_t a_t_tides a_t_seepYard a_t_seepSize a_t_growth a_t_level a_t_kind a_t_childYard a_t_pace a_t_ear t_yards t_seeps t_children p1 v1 hr2) (cwV 1 C.2.2.2.2.2.2.1 (w0_V0 q3_26 q3_23 q3_24 q3_25 q1_3) rfl rfl rfl kd_X7_hasChild ⟨Nat.le_of_ble_eq_true rfl, Nat.le_of_ble_eq_true rfl⟩) [1] rfl rfl 1 7 rfl rfl hl.1 rfl rfl rfl (Nat.le_of_ble_eq_true rfl) ⟨Nat.le_of_ble_eq_true rfl, Nat.le_of_ble_eq_true rfl⟩ (dq dt_X8_as 3 rfl) (fun H locs hw => ?_)
  refine lv_if_ne (tgt := 14) hx hb (dq dt_X8_as 4 rfl) (by decide) (fun c3 => ?_) (fun c3 => ?_)
  · replace hF := if_f c3 hF
    refine lv_iload_n hx hb (dq dt_X8_as 7 rfl) rfl (lv_at hl 2 rfl) ?_
    refine lv_iconst (v := (0 : Int32)) hx hb (dq dt_X8_as 8 rfl) (by decide) ?_
    refine lv_iconst (v := (4 : Int32)) hx hb (dq dt_X8_as 9 rfl) (by decide) ?_
    obtain ⟨v4, hr5, hF⟩ := zc1_ hF
    refine kCallSP C hw (A_X8_isWithin l D cB cI cJ cZ ad p2 (0 : Int32) (4 : Int32) v4 hr5) (va_cwS 3 C.2.2.2.2.2.2.1 (w0_S0 q2_65 q2_63 q2_64 q1_1) rfl rfl rfl ke_X8_isWithin ⟨Nat.le_of_ble_eq_true rfl, Nat.le_of_ble_eq_true rfl⟩) hl.1 rfl rfl rfl (Nat.le_of_ble_eq_true rfl) ⟨Nat.le_of_ble_eq_true rfl, Nat.le_of_ble_eq_true rfl⟩ (dq dt_X8_as 10 rfl) (fun H locs hw => ?_)
    refine lv_if_ne (tgt := 26) hx hb (dq dt_X8_as 11 rfl) (by decide) (fun c6 => ?_) (fun c6 => ?_)
    · replace hF := if_f c6 hF
      refine lv_aload_n hx hb (dq dt_X8_as 14 rfl) rfl (lv_at hl 0 rfl) ?_
      refine kGet (ci := 8) C in_X8 hw 0 rfl rfl 1 (by decide) (C.2.2.2.2.2.2.1 _ q2_23) rfl rfl (dq dt_X8_as 15 rfl) ?_
      refine kGet (ci := 7) C in_X7 hw 1 rfl rfl 8 (by decide) (C.2.2.2.2.2.2.1 _ q1_78) rfl rfl (dq dt_X8_as 16 rfl) ?_
      refine lv_iload_n hx hb (dq dt_X8_as 17 rfl) rfl (lv_at hl 1 rfl) ?_
      obtain ⟨v7, ev7, hi8, hF⟩ := rd_ hF
      refine kIald C hw 3 1 rfl rfl hi8 ev7 (dq dt_X8_as 18 rfl) ?_
      refine lv_iload_n hx hb (dq dt_X8_as 19 rfl) rfl (lv_at hl 2 rfl) ?_
      obtain ⟨v9, hr10, hF⟩ := zc1_ hF
      refine kCallSP C hw (A_X8_isOfKind l D cB cI cJ cZ ad v7 p2 v9 hr10) (va_cwS 2 C.2.2.2.2.2.2.1 (w0_S0 q3_71 q3_69 q3_70 q1_1) rfl rfl rfl ke_X8_isOfKind ⟨Nat.le_of_ble_eq_true rfl, Nat.le_of_ble_eq_true rfl⟩) hl.1 rfl rfl rfl (Nat.le_of_ble_eq_true rfl) ⟨Nat.le_of_ble_eq_true rfl, Nat.le_of_ble_eq_true rfl⟩ (dq dt_X8_as 20 rfl) (fun H locs hw => ?_)
      refine lv_if_eq (tgt := 53) hx hb (dq dt_X8_as 21 rfl) (by decide) (fun c11 => ?_) (fun c11 => ?_)
      · replace hF := if_t c11 hF
        refine lv_bipush (v := (-4 : Int32)) hx hb (dq dt_X8_as 27 rfl) (by decide) ?_
        cases hF
        exact kRetI hQ C hw (dq dt_X8_as 28 rfl)
      · replace hF := if_f c11 hF
        refine lv_aload_n hx hb (dq dt_X8_as 22 rfl) rfl (lv_at hl 0 rfl) ?_
        refine kGet (ci := 8) C in_X8 hw 0 rfl rfl 4 (by decide) (C.2.2.2.2.2.2.1 _ q2_26) rfl rfl (dq dt_X8_as 23 rfl) ?_
        refine lv_iload_n hx hb (dq dt_X8_as 24 rfl) rfl (lv_at hl 1 rfl) ?_
        obtain ⟨v12, hr13, hF⟩ := zc1_ hF
        refine kCallVR C hw (A_X3_heardBy l D cB cI cJ cZ ad a_t a_t_tides a_t_seepYard a_t_seepSize a_t_growth a_t_level a_t_kind a_t_childYard a_t_pace a_t_ear a_n a_n_size a_n_yard a_n_oranges t_yards t_seeps t_children t_seepYard t_kind t_ear n_hours n_filled n_toLesser n_yard p1 v12 hr13) (cwV 1 C.2.2.2.2.2.2.1 (w0_V0 q3_45 q3_72 q3_43 q3_44 q1_4) rfl rfl rfl kd_X3_heardBy ⟨Nat.le_of_ble_eq_true rfl, Nat.le_of_ble_eq_true rfl⟩) [1, 2, 3, 4, 5, 6] rfl rfl 5 3 rfl rfl hl.1 rfl rfl rfl (Nat.le_of_ble_eq_true rfl) ⟨Nat.le_of_ble_eq_true rfl, Nat.le_of_ble_eq_true rfl⟩ (dq dt_X8_as 25 rfl) (fun H locs hw => ?_)
        refine lv_goto (tgt := 55) hx hb (dq dt_X8_as 26 rfl) (by decide) ?_
        cases hF
        exact kRetI hQ C hw (dq dt_X8_as 28 rfl)
    · replace hF := if_t c6 hF
      refine lv_bipush (v := (-3 : Int32)) hx hb (dq dt_X8_as 12 rfl) (by decide) ?_
      cases hF
      exact kRetI hQ C hw (dq dt_X8_as 13 rfl)
  · replace hF := if_t c3 hF
    refine lv_bipush (v := (-2 : Int32)) hx hb (dq dt_X8_as 5 rfl) (by decide) ?_
    cases hF
    exact kRetI hQ C hw (dq dt_X8_as 6 rfl)
def F_X7_grown (t_tides : Nat → Int32) (t_growth : Nat → Int32) (t_level : Nat → Int32) (p1 : Int32) (p2 : Int32) (p3 : Int32) : Option (Int32) :=
  zc1 (F_X7_tideAt t_tides p3) (fun v1 => rd 6 t_level p1 (fun v3 => if v1 < v3 then (some p2) else (rd 6 t_growth p1 (fun v6 => bd (if (p2 + v6) < (100 : Int32) then (p2 + v6) else (100 : Int32)) (fun v8 => some v8)))))
abbrev rm_X7_grown : Room := { frames := 2, cells := 0, slots := 0, locals := 43 }
theorem kd_X7_grown : yX7_grown.cls = RX7 ∧ yX7_grown.cls ≠ "java/lang/invoke/MethodHandle" ∧ yX7_grown.cls ≠ "java/lang/invoke/VarHandle" ∧ (parseMethodDescriptor yX7_grown.desc).map (fun d => d.parameters.length) = some 3 := by decide +kernel
set_option maxRecDepth 100000 in
set_option maxHeartbeats 4000000 in
theorem A_X7_grown (l : Launch) (D : va_G) (cB cI cJ cZ : ClassId) (ad : (Nat → Nat) × (Nat → Nat)) (a_t a_t_tides a_t_seepYard a_t_seepSize a_t_growth a_t_level a_t_kind a_t_childYard a_t_pace a_t_ear : Nat) (t_yards : Int32) (t_seeps : Int32) (t_children : Int32) (t_tides : Nat → Int32) (t_growth : Nat → Int32) (t_level : Nat → Int32) (p1 : Int32) (p2 : Int32) (p3 : Int32) (r : Int32) (hF : F_X7_grown t_tides t_growth t_level p1 p2 p3 = some r) : kM l yX7_grown (Cond.code yX7_grown cX7_grown 4 (some .int) :: W0) rm_X7_grown D (kT cB cI cJ cZ) ad [.ref a_t, .int p1, .int p2, .int p3] [(a_t, .inr (7, [.int t_yards, .ref a_t_tides, .int t_seeps, .ref a_t_seepYard, .ref a_t_seepSize, .ref a_t_growth, .ref a_t_level, .int t_children, .ref a_t_kind, .ref a_t_childYard, .ref a_t_pace, .ref a_t_ear])), (a_t_tides, .inl (cI, 12, .inl t_tides)), (a_t_growth, .inl (cI, 6, .inl t_growth)), (a_t_level, .inl (cI, 6, .inl t_level))] (some (.int r)) [(a_t, .inr (7, [.int t_yards, .ref a_t_tides, .int t_seeps, .ref a_t_seepYard, .ref a_t_seepSize, .ref a_t_growth, .ref a_t_level, .int t_children, .ref a_t_kind, .ref a_t_childYard, .ref a_t_pace, .ref a_t_ear])), (a_t_tides, .inl (cI, 12, .inl t_tides)), (a_t_growth, .inl (cI, 6, .inl t_growth)), (a_t_level, .inl (cI, 6, .inl t_level))] := by
  unfold F_X7_grown at hF
  refine kStart (lv := [(0, .ref a_t), (1, .int p1), (2, .int p2), (3, .int p3)]) (own := "DikeWatch$Told") (plainFor_of_name (by decide)) rfl (Nat.le_of_ble_eq_true rfl) rfl ?_
  intro p e s m args below meth c A Q ls hQ C hx hb hw hl
  refine lv_aload_n hx hb (dq dt_X7_grown 0 rfl) rfl (lv_at hl 0 rfl) ?_
  refine lv_iload_n hx hb (dq dt_X7_grown 1 rfl) rfl (lv_at hl 3 rfl) ?_
  obtain ⟨v1, hr2, hF⟩ := zc1_ hF
  refine kCallVR C hw (A_X7_tideAt l D cB cI cJ cZ ad a_t a_t_tides a_t_seepYard a_t_seepSize a_t_growth a_t_level a_t_kind a_t_childYard a_t_pace a_t_ear t_yards t_seeps t_children t_tides p3 v1 hr2) (cwV 1 C.2.2.2.2.2.2.1 (w0_V0 q3_0 q3_89 q2_238 q2_239 q1_3) rfl rfl rfl kd_X7_tideAt ⟨Nat.le_of_ble_eq_true rfl, Nat.le_of_ble_eq_true rfl⟩) [0, 1] rfl rfl 0 7 rfl rfl hl.1 rfl rfl rfl (Nat.le_of_ble_eq_true rfl) ⟨Nat.le_of_ble_eq_true rfl, Nat.le_of_ble_eq_true rfl⟩ (dq dt_X7_grown 2 rfl) (fun H locs hw => ?_)
  refine lv_aload_n hx hb (dq dt_X7_grown 3 rfl) rfl (lv_at hl 0 rfl) ?_
  refine kGet (ci := 7) C in_X7 hw 0 rfl rfl 6 (by decide) (C.2.2.2.2.2.2.1 _ q1_70) rfl rfl (dq dt_X7_grown 4 rfl) ?_
  refine lv_iload_n hx hb (dq dt_X7_grown 5 rfl) rfl (lv_at hl 1 rfl) ?_
  obtain ⟨v3, ev3, hi4, hF⟩ := rd_ hF
  refine kIald C hw 3 1 rfl rfl hi4 ev3 (dq dt_X7_grown 6 rfl) ?_
  refine lv_icmp_lt (tgt := 30) hx hb (dq dt_X7_grown 7 rfl) (by decide) (fun c5 => ?_) (fun c5 => ?_)
  · replace hF := if_t c5 hF
    refine lv_iload_n hx hb (dq dt_X7_grown 17 rfl) rfl (lv_at hl 2 rfl) ?_
    cases hF
    exact kRetI hQ C hw (dq dt_X7_grown 18 rfl)
  · replace hF := if_f c5 hF
    refine lv_bipush (v := (100 : Int32)) hx hb (dq dt_X7_grown 8 rfl) (by decide) ?_
    refine lv_iload_n hx hb (dq dt_X7_grown 9 rfl) rfl (lv_at hl 2 rfl) ?_
    refine lv_aload_n hx hb (dq dt_X7_grown 10 rfl) rfl (lv_at hl 0 rfl) ?_
    refine kGet (ci := 7) C in_X7 hw 0 rfl rfl 5 (by decide) (C.2.2.2.2.2.2.1 _ q1_68) rfl rfl (dq dt_X7_grown 11 rfl) ?_
    refine lv_iload_n hx hb (dq dt_X7_grown 12 rfl) rfl (lv_at hl 1 rfl) ?_
    obtain ⟨v6, ev6, hi7, hF⟩ := rd_ hF
    refine kIald C hw 2 1 rfl rfl hi7 ev6 (dq dt_X7_grown 13 rfl) ?_
    refine lv_iadd hx hb (dq dt_X7_grown 14 rfl) ?_
    refine va_mmin hx hb (C.2.2.1.trans hl.1.symm) C.2.2.2.2.2.1 (C.2.2.2.2.2.2.1 _ q3_90) (C.2.2.2.2.2.2.1 _ q3_91) (C.2.2.2.2.2.2.1 _ q1_17) (C.2.2.2.2.2.2.1 _ q3_92) (Nat.le_of_ble_eq_true rfl) (Nat.le_of_ble_eq_true rfl) (Nat.le_of_ble_eq_true rfl) (Nat.le_of_ble_eq_true rfl) (dq dt_X7_grown 15 rfl) ?_
    obtain ⟨v8, ev8, hF⟩ := bd_ hF
    refine kNmI ev8 ?_
    refine lv_goto (tgt := 31) hx hb (dq dt_X7_grown 16 rfl) (by decide) ?_
    cases hF
    exact kRetI hQ C hw (dq dt_X7_grown 18 rfl)
def F_X3_growSeeps (t_seeps : Int32) (t_tides : Nat → Int32) (t_growth : Nat → Int32) (t_level : Nat → Int32) (n_hours : Int32) (n_filled : Int32) (n_size : Nat → Int32) : Option ((Nat → Int32)) :=
  zl2 (fun x1 h2 ag3 => if t_seeps ≤ x1 then (some h2) else (zc1 (F_X3_isFilled n_filled x1) (fun v5 => if v5 = 0 then (rd 6 h2 x1 (fun v9 => zc1 (F_X7_grown t_tides t_growth t_level x1 v9 n_hours) (fun v11 => wr 6 x1 (upd h2 (x1).toNatClampNeg v11) (fun g13 => bd (x1 + (1 : Int32)) (fun v15 => ag3 v15 g13))))) else (bd (x1 + (1 : Int32)) (fun v8 => ag3 v8 h2))))) FU (0 : Int32) n_size
abbrev rm_X3_growSeeps : Room := { frames := 3, cells := 0, slots := 0, locals := 66 }
theorem kd_X3_growSeeps : yX3_growSeeps.cls = RX3 ∧ yX3_growSeeps.cls ≠ "java/lang/invoke/MethodHandle" ∧ yX3_growSeeps.cls ≠ "java/lang/invoke/VarHandle" ∧ (parseMethodDescriptor yX3_growSeeps.desc).map (fun d => d.parameters.length) = some 0 := by decide +kernel
set_option maxRecDepth 100000 in
set_option maxHeartbeats 4000000 in
theorem A_X3_growSeeps (l : Launch) (D : va_G) (cB cI cJ cZ : ClassId) (ad : (Nat → Nat) × (Nat → Nat)) (a_t a_t_tides a_t_seepYard a_t_seepSize a_t_growth a_t_level a_t_kind a_t_childYard a_t_pace a_t_ear a_n a_n_size a_n_yard a_n_oranges : Nat) (t_yards : Int32) (t_seeps : Int32) (t_children : Int32) (t_tides : Nat → Int32) (t_growth : Nat → Int32) (t_level : Nat → Int32) (n_hours : Int32) (n_filled : Int32) (n_toLesser : Int32) (n_size : Nat → Int32) (n_size' : Nat → Int32) (hF : F_X3_growSeeps t_seeps t_tides t_growth t_level n_hours n_filled n_size = some n_size') : kM l yX3_growSeeps (Cond.code yX3_growSeeps cX3_growSeeps 2 (none) :: W0) rm_X3_growSeeps D (kT cB cI cJ cZ) ad [.ref a_n] [(a_t, .inr (7, [.int t_yards, .ref a_t_tides, .int t_seeps, .ref a_t_seepYard, .ref a_t_seepSize, .ref a_t_growth, .ref a_t_level, .int t_children, .ref a_t_kind, .ref a_t_childYard, .ref a_t_pace, .ref a_t_ear])), (a_t_tides, .inl (cI, 12, .inl t_tides)), (a_t_growth, .inl (cI, 6, .inl t_growth)), (a_t_level, .inl (cI, 6, .inl t_level)), (a_n, .inr (3, [.ref a_t, .int n_hours, .int n_filled, .ref a_n_size, .ref a_n_yard, .int n_toLesser, .ref a_n_oranges])), (a_n_size, .inl (cI, 6, .inl n_size))] none [(a_t, .inr (7, [.int t_yards, .ref a_t_tides, .int t_seeps, .ref a_t_seepYard, .ref a_t_seepSize, .ref a_t_growth, .ref a_t_level, .int t_children, .ref a_t_kind, .ref a_t_childYard, .ref a_t_pace, .ref a_t_ear])), (a_t_tides, .inl (cI, 12, .inl t_tides)), (a_t_growth, .inl (cI, 6, .inl t_growth)), (a_t_level, .inl (cI, 6, .inl t_level)), (a_n, .inr (3, [.ref a_t, .int n_hours, .int n_filled, .ref a_n_size, .ref a_n_yard, .int n_toLesser, .ref a_n_oranges])), (a_n_size, .inl (cI, 6, .inl (n_size')))] := by
  unfold F_X3_growSeeps at hF
  refine kStart (lv := [(0, .ref a_n)]) (own := "DikeWatch$Night") (plainFor_of_name (by decide)) rfl (Nat.le_of_ble_eq_true rfl) rfl ?_
  intro p e s m args below meth c A Q ls hQ C hx hb hw hl
  refine lv_iconst (v := (0 : Int32)) hx hb (dq dt_X3_growSeeps 0 rfl) (by decide) ?_
  refine lv_istore_n (lv' := [(1, .int (0 : Int32)), (0, .ref a_n)]) hx hb (dq dt_X3_growSeeps 1 rfl) rfl hl (by decide) rfl (fun ls hl => ?_)
  obtain ⟨K3, hK03, hK3, hF⟩ := zl2_ hF
  have L3 : ∀ (n : Nat) (x1 : Int32) (h2 : Nat → Int32), K3 n x1 h2 = some n_size' → ∀ (H : Heap) (locs : List Loc) (ls : Array Slot), kW D A s.heap [(a_t, .inr (7, [.int t_yards, .ref a_t_tides, .int t_seeps, .ref a_t_seepYard, .ref a_t_seepSize, .ref a_t_growth, .ref a_t_level, .int t_children, .ref a_t_kind, .ref a_t_childYard, .ref a_t_pace, .ref a_t_ear])), (a_t_tides, .inl (cI, 12, .inl t_tides)), (a_t_growth, .inl (cI, 6, .inl t_growth)), (a_t_level, .inl (cI, 6, .inl t_level)), (a_n, .inr (3, [.ref a_t, .int n_hours, .int n_filled, .ref a_n_size, .ref a_n_yard, .int n_toLesser, .ref a_n_oranges])), (a_n_size, .inl (cI, 6, .inl h2))] H locs → lv_has ls 2 [(0, .ref a_n), (1, .int x1)] → W p l e rm_X3_growSeeps s m args below meth c H locs 0 0 Q (F0 m 2 ls []) := by
    intro n
    induction n with
    | zero => intro x1 h2 hF; exact (lp_no (hK03 x1 h2) hF).elim
    | succ n ih3 =>
      intro x1 h2 hF H locs ls hw hl
      replace hF := hK3 n x1 h2 hF
      refine lv_iload_n hx hb (dq dt_X3_growSeeps 2 rfl) rfl (lv_at hl 1 rfl) ?_
      refine lv_aload_n hx hb (dq dt_X3_growSeeps 3 rfl) rfl (lv_at hl 0 rfl) ?_
      refine kGet (ci := 3) C in_X3 hw 4 rfl rfl 0 (by decide) (C.2.2.2.2.2.2.1 _ q1_119) rfl rfl (dq dt_X3_growSeeps 4 rfl) ?_
      refine kGet (ci := 7) C in_X7 hw 0 rfl rfl 2 (by decide) (C.2.2.2.2.2.2.1 _ q1_60) rfl rfl (dq dt_X3_growSeeps 5 rfl) ?_
      refine lv_icmp_ge (tgt := 51) hx hb (dq dt_X3_growSeeps 6 rfl) (by decide) (fun c4 => ?_) (fun c4 => ?_)
      · replace hF := if_t c4 hF
        cases hF
        exact kRetV hQ C hw (dq dt_X3_growSeeps 27 rfl)
      · replace hF := if_f c4 hF
        refine lv_aload_n hx hb (dq dt_X3_growSeeps 7 rfl) rfl (lv_at hl 0 rfl) ?_
        refine lv_iload_n hx hb (dq dt_X3_growSeeps 8 rfl) rfl (lv_at hl 1 rfl) ?_
        obtain ⟨v5, hr6, hF⟩ := zc1_ hF
        refine kCallVR C hw (A_X3_isFilled l D cB cI cJ cZ ad a_n a_t a_n_size a_n_yard a_n_oranges n_hours n_filled n_toLesser x1 v5 hr6) (cwV 1 C.2.2.2.2.2.2.1 (w0_V0 q3_15 q3_51 q3_13 q3_14 q1_4) rfl rfl rfl kd_X3_isFilled ⟨Nat.le_of_ble_eq_true rfl, Nat.le_of_ble_eq_true rfl⟩) [4] rfl rfl 4 3 rfl rfl hl.1 rfl rfl rfl (Nat.le_of_ble_eq_true rfl) ⟨Nat.le_of_ble_eq_true rfl, Nat.le_of_ble_eq_true rfl⟩ (dq dt_X3_growSeeps 9 rfl) (fun H locs hw => ?_)
        refine lv_if_ne (tgt := 45) hx hb (dq dt_X3_growSeeps 10 rfl) (by decide) (fun c7 => ?_) (fun c7 => ?_)
        · replace hF := if_f c7 hF
          obtain ⟨v8, ev8, hF⟩ := bd_ hF
          refine lv_iinc (v := v8) (lv' := [(1, .int v8), (0, .ref a_n)]) hx hb (dq dt_X3_growSeeps 25 rfl) hl (k := 1) rfl ev8.symm (by decide) rfl (fun ls hl => ?_)
          refine lv_goto (tgt := 2) hx hb (dq dt_X3_growSeeps 26 rfl) (by decide) ?_
          exact ih3 v8 h2 hF _ _ _ hw (lv_sub hl [1, 0] rfl)
        · replace hF := if_t c7 hF
          refine lv_aload_n hx hb (dq dt_X3_growSeeps 11 rfl) rfl (lv_at hl 0 rfl) ?_
          refine kGet (ci := 3) C in_X3 hw 4 rfl rfl 3 (by decide) (C.2.2.2.2.2.2.1 _ q1_125) rfl rfl (dq dt_X3_growSeeps 12 rfl) ?_
          refine lv_iload_n hx hb (dq dt_X3_growSeeps 13 rfl) rfl (lv_at hl 1 rfl) ?_
          refine lv_aload_n hx hb (dq dt_X3_growSeeps 14 rfl) rfl (lv_at hl 0 rfl) ?_
          refine kGet (ci := 3) C in_X3 hw 4 rfl rfl 0 (by decide) (C.2.2.2.2.2.2.1 _ q1_119) rfl rfl (dq dt_X3_growSeeps 15 rfl) ?_
          refine lv_iload_n hx hb (dq dt_X3_growSeeps 16 rfl) rfl (lv_at hl 1 rfl) ?_
          refine lv_aload_n hx hb (dq dt_X3_growSeeps 17 rfl) rfl (lv_at hl 0 rfl) ?_
          refine kGet (ci := 3) C in_X3 hw 4 rfl rfl 3 (by decide) (C.2.2.2.2.2.2.1 _ q1_125) rfl rfl (dq dt_X3_growSeeps 18 rfl) ?_
          refine lv_iload_n hx hb (dq dt_X3_growSeeps 19 rfl) rfl (lv_at hl 1 rfl) ?_
          obtain ⟨v9, ev9, hi10, hF⟩ := rd_ hF
          refine kIald C hw 5 1 rfl rfl hi10 ev9 (dq dt_X3_growSeeps 20 rfl) ?_
          refine lv_aload_n hx hb (dq dt_X3_growSeeps 21 rfl) rfl (lv_at hl 0 rfl) ?_
          refine kGet (ci := 3) C in_X3 hw 4 rfl rfl 1 (by decide) (C.2.2.2.2.2.2.1 _ q1_120) rfl rfl (dq dt_X3_growSeeps 22 rfl) ?_
          obtain ⟨v11, hr12, hF⟩ := zc1_ hF
          refine kCallVR C hw (A_X7_grown l D cB cI cJ cZ ad a_t a_t_tides a_t_seepYard a_t_seepSize a_t_growth a_t_level a_t_kind a_t_childYard a_t_pace a_t_ear t_yards t_seeps t_children t_tides t_growth t_level x1 v9 n_hours v11 hr12) (cwV 3 C.2.2.2.2.2.2.1 (w0_V0 q3_88 q3_85 q3_86 q3_87 q1_3) rfl rfl rfl kd_X7_grown ⟨Nat.le_of_ble_eq_true rfl, Nat.le_of_ble_eq_true rfl⟩) [0, 1, 2, 3] rfl rfl 0 7 rfl rfl hl.1 rfl rfl rfl (Nat.le_of_ble_eq_true rfl) ⟨Nat.le_of_ble_eq_true rfl, Nat.le_of_ble_eq_true rfl⟩ (dq dt_X3_growSeeps 23 rfl) (fun H locs hw => ?_)
          obtain ⟨g13, eg13, hi14, hF⟩ := wr_ hF
          refine kIast (ws' := [(a_t, .inr (7, [.int t_yards, .ref a_t_tides, .int t_seeps, .ref a_t_seepYard, .ref a_t_seepSize, .ref a_t_growth, .ref a_t_level, .int t_children, .ref a_t_kind, .ref a_t_childYard, .ref a_t_pace, .ref a_t_ear])), (a_t_tides, .inl (cI, 12, .inl t_tides)), (a_t_growth, .inl (cI, 6, .inl t_growth)), (a_t_level, .inl (cI, 6, .inl t_level)), (a_n, .inr (3, [.ref a_t, .int n_hours, .int n_filled, .ref a_n_size, .ref a_n_yard, .int n_toLesser, .ref a_n_oranges])), (a_n_size, .inl (cI, 6, .inl g13))]) C hw 5 1 rfl rfl hi14 eg13 rfl (dq dt_X3_growSeeps 24 rfl) (fun H locs hw => ?_)
          obtain ⟨v15, ev15, hF⟩ := bd_ hF
          refine lv_iinc (v := v15) (lv' := [(1, .int v15), (0, .ref a_n)]) hx hb (dq dt_X3_growSeeps 25 rfl) hl (k := 1) rfl ev15.symm (by decide) rfl (fun ls hl => ?_)
          refine lv_goto (tgt := 2) hx hb (dq dt_X3_growSeeps 26 rfl) (by decide) ?_
          exact ih3 v15 g13 hF _ _ _ hw (lv_sub hl [1, 0] rfl)
  exact L3 _ (0 : Int32) n_size hF _ _ _ hw (lv_sub hl [1, 0] rfl)
def F_X3_walk (t_yards : Int32) (t_pace : Nat → Int32) (n_toLesser : Int32) (n_yard : Nat → Int32) (p1 : Int32) : Option (Int32 × (Nat → Int32)) :=
  zl3 (fun x1 h2 h3 ag4 => rd 5 t_pace p1 (fun v5 => if v5 ≤ x1 then (some (h2, h3)) else (zc1 (F_X3_goesToLesser h2 p1) (fun v8 => zj1 (fun y10 => rd 5 h3 p1 (fun v12 => zj1 (fun h14 => rd 5 h3 p1 (fun v16 => zc1 (F_X3_goesToLesser h14 p1) (fun v18 => zj1 (fun y20 => bd (v16 + y20) (fun v22 => wr 5 p1 (upd h3 (p1).toNatClampNeg v22) (fun g23 => bd (x1 + (1 : Int32)) (fun v25 => ag4 v25 h14 g23)))) (fun K21 => if v18 = 0 then (K21 (1 : Int32)) else (K21 (-1 : Int32)))))) (fun K15 => if v12 = y10 then (bd (h2 ^^^ ((1 : Int32) <<< (p1 &&& 31))) (fun v28 => K15 v28)) else (K15 h2)))) (fun K11 => if v8 = 0 then (K11 (t_yards - (1 : Int32))) else (K11 (0 : Int32))))))) FU (0 : Int32) n_toLesser n_yard
abbrev rm_X3_walk : Room := { frames := 2, cells := 0, slots := 0, locals := 42 }
theorem kd_X3_walk : yX3_walk.cls = RX3 ∧ yX3_walk.cls ≠ "java/lang/invoke/MethodHandle" ∧ yX3_walk.cls ≠ "java/lang/invoke/VarHandle" ∧ (parseMethodDescriptor yX3_walk.desc).map (fun d => d.parameters.length) = some 1 := by decide +kernel
set_option maxRecDepth 100000 in
set_option maxHeartbeats 4000000 in
theorem A_X3_walk (l : Launch) (D : va_G) (cB cI cJ cZ : ClassId) (ad : (Nat → Nat) × (Nat → Nat)) (a_t a_t_tides a_t_seepYard a_t_seepSize a_t_growth a_t_level a_t_kind a_t_childYard a_t_pace a_t_ear a_n a_n_size a_n_yard a_n_oranges : Nat) (t_yards : Int32) (t_seeps : Int32) (t_children : Int32) (t_pace : Nat → Int32) (n_hours : Int32) (n_filled : Int32) (n_toLesser : Int32) (n_yard : Nat → Int32) (p1 : Int32) (n_toLesser' : Int32) (n_yard' : Nat → Int32) (hF : F_X3_walk t_yards t_pace n_toLesser n_yard p1 = some (n_toLesser', n_yard')) : kM l yX3_walk (Cond.code yX3_walk cX3_walk 4 (none) :: W0) rm_X3_walk D (kT cB cI cJ cZ) ad [.ref a_n, .int p1] [(a_t, .inr (7, [.int t_yards, .ref a_t_tides, .int t_seeps, .ref a_t_seepYard, .ref a_t_seepSize, .ref a_t_growth, .ref a_t_level, .int t_children, .ref a_t_kind, .ref a_t_childYard, .ref a_t_pace, .ref a_t_ear])), (a_t_pace, .inl (cI, 5, .inl t_pace)), (a_n, .inr (3, [.ref a_t, .int n_hours, .int n_filled, .ref a_n_size, .ref a_n_yard, .int n_toLesser, .ref a_n_oranges])), (a_n_yard, .inl (cI, 5, .inl n_yard))] none [(a_t, .inr (7, [.int t_yards, .ref a_t_tides, .int t_seeps, .ref a_t_seepYard, .ref a_t_seepSize, .ref a_t_growth, .ref a_t_level, .int t_children, .ref a_t_kind, .ref a_t_childYard, .ref a_t_pace, .ref a_t_ear])), (a_t_pace, .inl (cI, 5, .inl t_pace)), (a_n, .inr (3, [.ref a_t, .int n_hours, .int n_filled, .ref a_n_size, .ref a_n_yard, .int (n_toLesser'), .ref a_n_oranges])), (a_n_yard, .inl (cI, 5, .inl (n_yard')))] := by
  unfold F_X3_walk at hF
  refine kStart (lv := [(0, .ref a_n), (1, .int p1)]) (own := "DikeWatch$Night") (plainFor_of_name (by decide)) rfl (Nat.le_of_ble_eq_true rfl) rfl ?_
  intro p e s m args below meth c A Q ls hQ C hx hb hw hl
  refine lv_iconst (v := (0 : Int32)) hx hb (dq dt_X3_walk 0 rfl) (by decide) ?_
  refine lv_istore_n (lv' := [(2, .int (0 : Int32)), (0, .ref a_n), (1, .int p1)]) hx hb (dq dt_X3_walk 1 rfl) rfl hl (by decide) rfl (fun ls hl => ?_)
  obtain ⟨K4, hK04, hK4, hF⟩ := zl3_ hF
  have L4 : ∀ (n : Nat) (x1 : Int32) (h2 : Int32) (h3 : Nat → Int32), K4 n x1 h2 h3 = some (n_toLesser', n_yard') → ∀ (H : Heap) (locs : List Loc) (ls : Array Slot), kW D A s.heap [(a_t, .inr (7, [.int t_yards, .ref a_t_tides, .int t_seeps, .ref a_t_seepYard, .ref a_t_seepSize, .ref a_t_growth, .ref a_t_level, .int t_children, .ref a_t_kind, .ref a_t_childYard, .ref a_t_pace, .ref a_t_ear])), (a_t_pace, .inl (cI, 5, .inl t_pace)), (a_n, .inr (3, [.ref a_t, .int n_hours, .int n_filled, .ref a_n_size, .ref a_n_yard, .int h2, .ref a_n_oranges])), (a_n_yard, .inl (cI, 5, .inl h3))] H locs → lv_has ls 4 [(0, .ref a_n), (1, .int p1), (2, .int x1)] → W p l e rm_X3_walk s m args below meth c H locs 0 0 Q (F0 m 2 ls []) := by
    intro n
    induction n with
    | zero => intro x1 h2 h3 hF; exact (lp_no (hK04 x1 h2 h3) hF).elim
    | succ n ih4 =>
      intro x1 h2 h3 hF H locs ls hw hl
      replace hF := hK4 n x1 h2 h3 hF
      refine lv_iload_n hx hb (dq dt_X3_walk 2 rfl) rfl (lv_at hl 2 rfl) ?_
      refine lv_aload_n hx hb (dq dt_X3_walk 3 rfl) rfl (lv_at hl 0 rfl) ?_
      refine kGet (ci := 3) C in_X3 hw 2 rfl rfl 0 (by decide) (C.2.2.2.2.2.2.1 _ q1_119) rfl rfl (dq dt_X3_walk 4 rfl) ?_
      refine kGet (ci := 7) C in_X7 hw 0 rfl rfl 10 (by decide) (C.2.2.2.2.2.2.1 _ q1_83) rfl rfl (dq dt_X3_walk 5 rfl) ?_
      refine lv_iload_n hx hb (dq dt_X3_walk 6 rfl) rfl (lv_at hl 1 rfl) ?_
      obtain ⟨v5, ev5, hi6, hF⟩ := rd_ hF
      refine kIald C hw 1 1 rfl rfl hi6 ev5 (dq dt_X3_walk 7 rfl) ?_
      refine lv_icmp_ge (tgt := 87) hx hb (dq dt_X3_walk 8 rfl) (by decide) (fun c7 => ?_) (fun c7 => ?_)
      · replace hF := if_t c7 hF
        cases hF
        exact kRetV hQ C hw (dq dt_X3_walk 51 rfl)
      · replace hF := if_f c7 hF
        refine lv_aload_n hx hb (dq dt_X3_walk 9 rfl) rfl (lv_at hl 0 rfl) ?_
        refine lv_iload_n hx hb (dq dt_X3_walk 10 rfl) rfl (lv_at hl 1 rfl) ?_
        obtain ⟨v8, hr9, hF⟩ := zc1_ hF
        refine kCallVR C hw (A_X3_goesToLesser l D cB cI cJ cZ ad a_n a_t a_n_size a_n_yard a_n_oranges n_hours n_filled h2 p1 v8 hr9) (cwV 1 C.2.2.2.2.2.2.1 (w0_V0 q3_37 q3_97 q3_35 q3_36 q1_4) rfl rfl rfl kd_X3_goesToLesser ⟨Nat.le_of_ble_eq_true rfl, Nat.le_of_ble_eq_true rfl⟩) [2] rfl rfl 2 3 rfl rfl hl.1 rfl rfl rfl (Nat.le_of_ble_eq_true rfl) ⟨Nat.le_of_ble_eq_true rfl, Nat.le_of_ble_eq_true rfl⟩ (dq dt_X3_walk 11 rfl) (fun H locs hw => ?_)
        obtain ⟨K11, hK11, hF⟩ := zj1_ hF
        have J11 : ∀ (y10 : Int32), K11 y10 = some (n_toLesser', n_yard') → ∀ (H : Heap) (locs : List Loc) (ls : Array Slot), kW D A s.heap [(a_t, .inr (7, [.int t_yards, .ref a_t_tides, .int t_seeps, .ref a_t_seepYard, .ref a_t_seepSize, .ref a_t_growth, .ref a_t_level, .int t_children, .ref a_t_kind, .ref a_t_childYard, .ref a_t_pace, .ref a_t_ear])), (a_t_pace, .inl (cI, 5, .inl t_pace)), (a_n, .inr (3, [.ref a_t, .int n_hours, .int n_filled, .ref a_n_size, .ref a_n_yard, .int h2, .ref a_n_oranges])), (a_n_yard, .inl (cI, 5, .inl h3))] H locs → lv_has ls 4 [(0, .ref a_n), (1, .int p1), (2, .int x1)] → W p l e rm_X3_walk s m args below meth c H locs 0 0 Q (F0 m 36 ls [.int y10]) := by
          intro y10 hF H locs ls hw hl
          replace hF := hK11 y10 hF
          refine lv_istore_n (lv' := [(3, .int y10), (0, .ref a_n), (1, .int p1), (2, .int x1)]) hx hb (dq dt_X3_walk 20 rfl) rfl hl (by decide) rfl (fun ls hl => ?_)
          refine lv_aload_n hx hb (dq dt_X3_walk 21 rfl) rfl (lv_at hl 1 rfl) ?_
          refine kGet (ci := 3) C in_X3 hw 2 rfl rfl 4 (by decide) (C.2.2.2.2.2.2.1 _ q1_128) rfl rfl (dq dt_X3_walk 22 rfl) ?_
          refine lv_iload_n hx hb (dq dt_X3_walk 23 rfl) rfl (lv_at hl 2 rfl) ?_
          obtain ⟨v12, ev12, hi13, hF⟩ := rd_ hF
          refine kIald C hw 3 1 rfl rfl hi13 ev12 (dq dt_X3_walk 24 rfl) ?_
          refine lv_iload_n hx hb (dq dt_X3_walk 25 rfl) rfl (lv_at hl 0 rfl) ?_
          obtain ⟨K15, hK15, hF⟩ := zj1_ hF
          have J15 : ∀ (h14 : Int32), K15 h14 = some (n_toLesser', n_yard') → ∀ (H : Heap) (locs : List Loc) (ls : Array Slot), kW D A s.heap [(a_t, .inr (7, [.int t_yards, .ref a_t_tides, .int t_seeps, .ref a_t_seepYard, .ref a_t_seepSize, .ref a_t_growth, .ref a_t_level, .int t_children, .ref a_t_kind, .ref a_t_childYard, .ref a_t_pace, .ref a_t_ear])), (a_t_pace, .inl (cI, 5, .inl t_pace)), (a_n, .inr (3, [.ref a_t, .int n_hours, .int n_filled, .ref a_n_size, .ref a_n_yard, .int h14, .ref a_n_oranges])), (a_n_yard, .inl (cI, 5, .inl h3))] H locs → lv_has ls 4 [(0, .ref a_n), (1, .int p1), (2, .int x1)] → W p l e rm_X3_walk s m args below meth c H locs 0 0 Q (F0 m 59 ls []) := by
            intro h14 hF H locs ls hw hl
            replace hF := hK15 h14 hF
            refine lv_aload_n hx hb (dq dt_X3_walk 35 rfl) rfl (lv_at hl 0 rfl) ?_
            refine kGet (ci := 3) C in_X3 hw 2 rfl rfl 4 (by decide) (C.2.2.2.2.2.2.1 _ q1_128) rfl rfl (dq dt_X3_walk 36 rfl) ?_
            refine lv_iload_n hx hb (dq dt_X3_walk 37 rfl) rfl (lv_at hl 1 rfl) ?_
            refine lv_dup2_11 hx hb (dq dt_X3_walk 38 rfl) rfl rfl ?_
            obtain ⟨v16, ev16, hi17, hF⟩ := rd_ hF
            refine kIald C hw 3 1 rfl rfl hi17 ev16 (dq dt_X3_walk 39 rfl) ?_
            refine lv_aload_n hx hb (dq dt_X3_walk 40 rfl) rfl (lv_at hl 0 rfl) ?_
            refine lv_iload_n hx hb (dq dt_X3_walk 41 rfl) rfl (lv_at hl 1 rfl) ?_
            obtain ⟨v18, hr19, hF⟩ := zc1_ hF
            refine kCallVR C hw (A_X3_goesToLesser l D cB cI cJ cZ ad a_n a_t a_n_size a_n_yard a_n_oranges n_hours n_filled h14 p1 v18 hr19) (cwV 1 C.2.2.2.2.2.2.1 (w0_V0 q3_37 q3_97 q3_35 q3_36 q1_4) rfl rfl rfl kd_X3_goesToLesser ⟨Nat.le_of_ble_eq_true rfl, Nat.le_of_ble_eq_true rfl⟩) [2] rfl rfl 2 3 rfl rfl hl.1 rfl rfl rfl (Nat.le_of_ble_eq_true rfl) ⟨Nat.le_of_ble_eq_true rfl, Nat.le_of_ble_eq_true rfl⟩ (dq dt_X3_walk 42 rfl) (fun H locs hw => ?_)
            obtain ⟨K21, hK21, hF⟩ := zj1_ hF
            have J21 : ∀ (y20 : Int32), K21 y20 = some (n_toLesser', n_yard') → ∀ (H : Heap) (locs : List Loc) (ls : Array Slot), kW D A s.heap [(a_t, .inr (7, [.int t_yards, .ref a_t_tides, .int t_seeps, .ref a_t_seepYard, .ref a_t_seepSize, .ref a_t_growth, .ref a_t_level, .int t_children, .ref a_t_kind, .ref a_t_childYard, .ref a_t_pace, .ref a_t_ear])), (a_t_pace, .inl (cI, 5, .inl t_pace)), (a_n, .inr (3, [.ref a_t, .int n_hours, .int n_filled, .ref a_n_size, .ref a_n_yard, .int h14, .ref a_n_oranges])), (a_n_yard, .inl (cI, 5, .inl h3))] H locs → lv_has ls 4 [(0, .ref a_n), (1, .int p1), (2, .int x1)] → W p l e rm_X3_walk s m args below meth c H locs 0 0 Q (F0 m 79 ls [.int y20, .int v16, .int p1, .ref a_n_yard]) := by
              intro y20 hF H locs ls hw hl
              replace hF := hK21 y20 hF
              refine lv_iadd hx hb (dq dt_X3_walk 47 rfl) ?_
              obtain ⟨v22, ev22, hF⟩ := bd_ hF
              refine kNmI ev22 ?_
              obtain ⟨g23, eg23, hi24, hF⟩ := wr_ hF
              refine kIast (ws' := [(a_t, .inr (7, [.int t_yards, .ref a_t_tides, .int t_seeps, .ref a_t_seepYard, .ref a_t_seepSize, .ref a_t_growth, .ref a_t_level, .int t_children, .ref a_t_kind, .ref a_t_childYard, .ref a_t_pace, .ref a_t_ear])), (a_t_pace, .inl (cI, 5, .inl t_pace)), (a_n, .inr (3, [.ref a_t, .int n_hours, .int n_filled, .ref a_n_size, .ref a_n_yard, .int h14, .ref a_n_oranges])), (a_n_yard, .inl (cI, 5, .inl g23))]) C hw 3 1 rfl rfl hi24 eg23 rfl (dq dt_X3_walk 48 rfl) (fun H locs hw => ?_)
              obtain ⟨v25, ev25, hF⟩ := bd_ hF
              refine lv_iinc (v := v25) (lv' := [(2, .int v25), (0, .ref a_n), (1, .int p1)]) hx hb (dq dt_X3_walk 49 rfl) hl (k := 2) rfl ev25.symm (by decide) rfl (fun ls hl => ?_)
              refine lv_goto (tgt := 2) hx hb (dq dt_X3_walk 50 rfl) (by decide) ?_
              exact ih4 v25 h14 g23 hF _ _ _ hw (lv_sub hl [1, 2, 0] rfl)
            refine lv_if_eq (tgt := 78) hx hb (dq dt_X3_walk 43 rfl) (by decide) (fun c26 => ?_) (fun c26 => ?_)
            · replace hF := if_t c26 hF
              refine lv_iconst (v := (1 : Int32)) hx hb (dq dt_X3_walk 46 rfl) (by decide) ?_
              exact J21 (1 : Int32) hF _ _ _ hw (lv_sub hl [0, 1, 2] rfl)
            · replace hF := if_f c26 hF
              refine lv_iconst (v := (-1 : Int32)) hx hb (dq dt_X3_walk 44 rfl) (by decide) ?_
              refine lv_goto (tgt := 79) hx hb (dq dt_X3_walk 45 rfl) (by decide) ?_
              exact J21 (-1 : Int32) hF _ _ _ hw (lv_sub hl [0, 1, 2] rfl)
          refine lv_icmp_ne (tgt := 59) hx hb (dq dt_X3_walk 26 rfl) (by decide) (fun c27 => ?_) (fun c27 => ?_)
          · replace hF := if_f c27 hF
            exact J15 h2 hF _ _ _ hw (lv_sub hl [1, 2, 3] rfl)
          · replace hF := if_t c27 hF
            refine lv_aload_n hx hb (dq dt_X3_walk 27 rfl) rfl (lv_at hl 1 rfl) ?_
            refine lv_dup hx hb (dq dt_X3_walk 28 rfl) rfl ?_
            refine kGet (ci := 3) C in_X3 hw 2 rfl rfl 5 (by decide) (C.2.2.2.2.2.2.1 _ q1_130) rfl rfl (dq dt_X3_walk 29 rfl) ?_
            refine lv_iconst (v := (1 : Int32)) hx hb (dq dt_X3_walk 30 rfl) (by decide) ?_
            refine lv_iload_n hx hb (dq dt_X3_walk 31 rfl) rfl (lv_at hl 2 rfl) ?_
            refine lv_ishl hx hb (dq dt_X3_walk 32 rfl) ?_
            refine lv_ixor hx hb (dq dt_X3_walk 33 rfl) ?_
            obtain ⟨v28, ev28, hF⟩ := bd_ hF
            refine kNmI ev28 ?_
            refine kPut (ci := 3) (ws' := [(a_t, .inr (7, [.int t_yards, .ref a_t_tides, .int t_seeps, .ref a_t_seepYard, .ref a_t_seepSize, .ref a_t_growth, .ref a_t_level, .int t_children, .ref a_t_kind, .ref a_t_childYard, .ref a_t_pace, .ref a_t_ear])), (a_t_pace, .inl (cI, 5, .inl t_pace)), (a_n, .inr (3, [.ref a_t, .int n_hours, .int n_filled, .ref a_n_size, .ref a_n_yard, .int v28, .ref a_n_oranges])), (a_n_yard, .inl (cI, 5, .inl h3))]) C in_X3 tyX3 tyX3_ok nmX3 hw 2 rfl rfl 5 (by decide) (C.2.2.2.2.2.2.1 _ q1_130) rfl rfl rfl rfl (Nat.le_of_ble_eq_true rfl) rfl (dq dt_X3_walk 34 rfl) (fun H locs hw => ?_)
            exact J15 v28 hF _ _ _ hw (lv_sub hl [1, 2, 3] rfl)
        refine lv_if_eq (tgt := 27) hx hb (dq dt_X3_walk 12 rfl) (by decide) (fun c29 => ?_) (fun c29 => ?_)
        · replace hF := if_t c29 hF
          refine lv_aload_n hx hb (dq dt_X3_walk 15 rfl) rfl (lv_at hl 0 rfl) ?_
          refine kGet (ci := 3) C in_X3 hw 2 rfl rfl 0 (by decide) (C.2.2.2.2.2.2.1 _ q1_119) rfl rfl (dq dt_X3_walk 16 rfl) ?_
          refine kGet (ci := 7) C in_X7 hw 0 rfl rfl 0 (by decide) (C.2.2.2.2.2.2.1 _ q1_52) rfl rfl (dq dt_X3_walk 17 rfl) ?_
          refine lv_iconst (v := (1 : Int32)) hx hb (dq dt_X3_walk 18 rfl) (by decide) ?_
          refine lv_isub hx hb (dq dt_X3_walk 19 rfl) ?_
          exact J11 (t_yards - (1 : Int32)) hF _ _ _ hw (lv_sub hl [0, 1, 2] rfl)
        · replace hF := if_f c29 hF
          refine lv_iconst (v := (0 : Int32)) hx hb (dq dt_X3_walk 13 rfl) (by decide) ?_
          refine lv_goto (tgt := 36) hx hb (dq dt_X3_walk 14 rfl) (by decide) ?_
          exact J11 (0 : Int32) hF _ _ _ hw (lv_sub hl [0, 1, 2] rfl)
  exact L4 _ (0 : Int32) n_toLesser n_yard hF _ _ _ hw (lv_sub hl [1, 2, 0] rfl)
def F_X3_passHours (t_yards : Int32) (t_seeps : Int32) (t_children : Int32) (t_tides : Nat → Int32) (t_growth : Nat → Int32) (t_level : Nat → Int32) (t_pace : Nat → Int32) (n_hours : Int32) (n_filled : Int32) (n_toLesser : Int32) (n_size : Nat → Int32) (n_yard : Nat → Int32) (p1 : Int32) : Option (Int32 × Int32 × (Nat → Int32) × (Nat → Int32)) :=
  zl5 (fun x1 h2 h3 h4 h5 ag6 => if p1 ≤ x1 then (some (h2, h3, h4, h5)) else (zc1 (F_X3_growSeeps t_seeps t_tides t_growth t_level h2 n_filled h4) (fun g8 => zl3 (fun x10 h11 h12 ag13 => if t_children ≤ x10 then (bd (h2 + (1 : Int32)) (fun v15 => bd (x1 + (1 : Int32)) (fun v16 => ag6 v16 v15 h11 g8 h12))) else (zc2 (F_X3_walk t_yards t_pace h11 h12 x10) (fun g17 g18 => bd (x10 + (1 : Int32)) (fun v20 => ag13 v20 g17 g18)))) FU (0 : Int32) h3 h5))) FU (0 : Int32) n_hours n_toLesser n_size n_yard
abbrev rm_X3_passHours : Room := { frames := 4, cells := 0, slots := 0, locals := 87 }
theorem kd_X3_passHours : yX3_passHours.cls = RX3 ∧ yX3_passHours.cls ≠ "java/lang/invoke/MethodHandle" ∧ yX3_passHours.cls ≠ "java/lang/invoke/VarHandle" ∧ (parseMethodDescriptor yX3_passHours.desc).map (fun d => d.parameters.length) = some 1 := by decide +kernel
set_option maxRecDepth 100000 in
set_option maxHeartbeats 4000000 in
theorem A_X3_passHours (l : Launch) (D : va_G) (cB cI cJ cZ : ClassId) (ad : (Nat → Nat) × (Nat → Nat)) (a_t a_t_tides a_t_seepYard a_t_seepSize a_t_growth a_t_level a_t_kind a_t_childYard a_t_pace a_t_ear a_n a_n_size a_n_yard a_n_oranges : Nat) (t_yards : Int32) (t_seeps : Int32) (t_children : Int32) (t_tides : Nat → Int32) (t_growth : Nat → Int32) (t_level : Nat → Int32) (t_pace : Nat → Int32) (n_hours : Int32) (n_filled : Int32) (n_toLesser : Int32) (n_size : Nat → Int32) (n_yard : Nat → Int32) (p1 : Int32) (n_hours' : Int32) (n_toLesser' : Int32) (n_size' : Nat → Int32) (n_yard' : Nat → Int32) (hF : F_X3_passHours t_yards t_seeps t_children t_tides t_growth t_level t_pace n_hours n_filled n_toLesser n_size n_yard p1 = some (n_hours', n_toLesser', n_size', n_yard')) : kM l yX3_passHours (Cond.code yX3_passHours cX3_passHours 4 (none) :: W0) rm_X3_passHours D (kT cB cI cJ cZ) ad [.ref a_n, .int p1] [(a_t, .inr (7, [.int t_yards, .ref a_t_tides, .int t_seeps, .ref a_t_seepYard, .ref a_t_seepSize, .ref a_t_growth, .ref a_t_level, .int t_children, .ref a_t_kind, .ref a_t_childYard, .ref a_t_pace, .ref a_t_ear])), (a_t_tides, .inl (cI, 12, .inl t_tides)), (a_t_growth, .inl (cI, 6, .inl t_growth)), (a_t_level, .inl (cI, 6, .inl t_level)), (a_t_pace, .inl (cI, 5, .inl t_pace)), (a_n, .inr (3, [.ref a_t, .int n_hours, .int n_filled, .ref a_n_size, .ref a_n_yard, .int n_toLesser, .ref a_n_oranges])), (a_n_size, .inl (cI, 6, .inl n_size)), (a_n_yard, .inl (cI, 5, .inl n_yard))] none [(a_t, .inr (7, [.int t_yards, .ref a_t_tides, .int t_seeps, .ref a_t_seepYard, .ref a_t_seepSize, .ref a_t_growth, .ref a_t_level, .int t_children, .ref a_t_kind, .ref a_t_childYard, .ref a_t_pace, .ref a_t_ear])), (a_t_tides, .inl (cI, 12, .inl t_tides)), (a_t_growth, .inl (cI, 6, .inl t_growth)), (a_t_level, .inl (cI, 6, .inl t_level)), (a_t_pace, .inl (cI, 5, .inl t_pace)), (a_n, .inr (3, [.ref a_t, .int (n_hours'), .int n_filled, .ref a_n_size, .ref a_n_yard, .int (n_toLesser'), .ref a_n_oranges])), (a_n_size, .inl (cI, 6, .inl (n_size'))), (a_n_yard, .inl (cI, 5, .inl (n_yard')))] := by
  unfold F_X3_passHours at hF
  refine kStart (lv := [(0, .ref a_n), (1, .int p1)]) (own := "DikeWatch$Night") (plainFor_of_name (by decide)) rfl (Nat.le_of_ble_eq_true rfl) rfl ?_
  intro p e s m args below meth c A Q ls hQ C hx hb hw hl
  refine lv_iconst (v := (0 : Int32)) hx hb (dq dt_X3_passHours 0 rfl) (by decide) ?_
  refine lv_istore_n (lv' := [(2, .int (0 : Int32)), (0, .ref a_n), (1, .int p1)]) hx hb (dq dt_X3_passHours 1 rfl) rfl hl (by decide) rfl (fun ls hl => ?_)
  obtain ⟨K6, hK06, hK6, hF⟩ := zl5_ hF
  have L6 : ∀ (n : Nat) (x1 : Int32) (h2 : Int32) (h3 : Int32) (h4 : Nat → Int32) (h5 : Nat → Int32), K6 n x1 h2 h3 h4 h5 = some (n_hours', n_toLesser', n_size', n_yard') → ∀ (H : Heap) (locs : List Loc) (ls : Array Slot), kW D A s.heap [(a_t, .inr (7, [.int t_yards, .ref a_t_tides, .int t_seeps, .ref a_t_seepYard, .ref a_t_seepSize, .ref a_t_growth, .ref a_t_level, .int t_children, .ref a_t_kind, .ref a_t_childYard, .ref a_t_pace, .ref a_t_ear])), (a_t_tides, .inl (cI, 12, .inl t_tides)), (a_t_growth, .inl (cI, 6, .inl t_growth)), (a_t_level, .inl (cI, 6, .inl t_level)), (a_t_pace, .inl (cI, 5, .inl t_pace)), (a_n, .inr (3, [.ref a_t, .int h2, .int n_filled, .ref a_n_size, .ref a_n_yard, .int h3, .ref a_n_oranges])), (a_n_size, .inl (cI, 6, .inl h4)), (a_n_yard, .inl (cI, 5, .inl h5))] H locs → lv_has ls 4 [(0, .ref a_n), (1, .int p1), (2, .int x1)] → W p l e rm_X3_passHours s m args below meth c H locs 0 0 Q (F0 m 2 ls []) := by
    intro n
    induction n with
    | zero => intro x1 h2 h3 h4 h5 hF; exact (lp_no (hK06 x1 h2 h3 h4 h5) hF).elim
    | succ n ih6 =>
      intro x1 h2 h3 h4 h5 hF H locs ls hw hl
      replace hF := hK6 n x1 h2 h3 h4 h5 hF
      refine lv_iload_n hx hb (dq dt_X3_passHours 2 rfl) rfl (lv_at hl 2 rfl) ?_
      refine lv_iload_n hx hb (dq dt_X3_passHours 3 rfl) rfl (lv_at hl 1 rfl) ?_
      refine lv_icmp_ge (tgt := 51) hx hb (dq dt_X3_passHours 4 rfl) (by decide) (fun c7 => ?_) (fun c7 => ?_)
      · replace hF := if_t c7 hF
        cases hF
        exact kRetV hQ C hw (dq dt_X3_passHours 27 rfl)
      · replace hF := if_f c7 hF
        refine lv_aload_n hx hb (dq dt_X3_passHours 5 rfl) rfl (lv_at hl 0 rfl) ?_
        obtain ⟨g8, hr9, hF⟩ := zc1_ hF
        refine kCallV (ws2 := [(a_t, .inr (7, [.int t_yards, .ref a_t_tides, .int t_seeps, .ref a_t_seepYard, .ref a_t_seepSize, .ref a_t_growth, .ref a_t_level, .int t_children, .ref a_t_kind, .ref a_t_childYard, .ref a_t_pace, .ref a_t_ear])), (a_t_tides, .inl (cI, 12, .inl t_tides)), (a_t_growth, .inl (cI, 6, .inl t_growth)), (a_t_level, .inl (cI, 6, .inl t_level)), (a_t_pace, .inl (cI, 5, .inl t_pace)), (a_n, .inr (3, [.ref a_t, .int h2, .int n_filled, .ref a_n_size, .ref a_n_yard, .int h3, .ref a_n_oranges])), (a_n_size, .inl (cI, 6, .inl g8)), (a_n_yard, .inl (cI, 5, .inl h5))]) C hw (A_X3_growSeeps l D cB cI cJ cZ ad a_t a_t_tides a_t_seepYard a_t_seepSize a_t_growth a_t_level a_t_kind a_t_childYard a_t_pace a_t_ear a_n a_n_size a_n_yard a_n_oranges t_yards t_seeps t_children t_tides t_growth t_level h2 n_filled h3 h4 g8 hr9) (cwV 0 C.2.2.2.2.2.2.1 (w0_V0 q3_84 q3_81 q3_83 (ws0 9 rfl) q1_4) rfl rfl rfl kd_X3_growSeeps ⟨Nat.le_of_ble_eq_true rfl, Nat.le_of_ble_eq_true rfl⟩) [0, 1, 2, 3, 5, 6] rfl rfl rfl rfl 5 3 rfl rfl hl.1 rfl rfl rfl (Nat.le_of_ble_eq_true rfl) ⟨Nat.le_of_ble_eq_true rfl, Nat.le_of_ble_eq_true rfl⟩ (dq dt_X3_passHours 6 rfl) (fun H locs hw => ?_)
        refine lv_iconst (v := (0 : Int32)) hx hb (dq dt_X3_passHours 7 rfl) (by decide) ?_
        refine lv_istore_n (lv' := [(3, .int (0 : Int32)), (0, .ref a_n), (1, .int p1), (2, .int x1)]) hx hb (dq dt_X3_passHours 8 rfl) rfl hl (by decide) rfl (fun ls hl => ?_)
        obtain ⟨K13, hK013, hK13, hF⟩ := zl3_ hF
        have L13 : ∀ (n : Nat) (x10 : Int32) (h11 : Int32) (h12 : Nat → Int32), K13 n x10 h11 h12 = some (n_hours', n_toLesser', n_size', n_yard') → ∀ (H : Heap) (locs : List Loc) (ls : Array Slot), kW D A s.heap [(a_t, .inr (7, [.int t_yards, .ref a_t_tides, .int t_seeps, .ref a_t_seepYard, .ref a_t_seepSize, .ref a_t_growth, .ref a_t_level, .int t_children, .ref a_t_kind, .ref a_t_childYard, .ref a_t_pace, .ref a_t_ear])), (a_t_tides, .inl (cI, 12, .inl t_tides)), (a_t_growth, .inl (cI, 6, .inl t_growth)), (a_t_level, .inl (cI, 6, .inl t_level)), (a_t_pace, .inl (cI, 5, .inl t_pace)), (a_n, .inr (3, [.ref a_t, .int h2, .int n_filled, .ref a_n_size, .ref a_n_yard, .int h11, .ref a_n_oranges])), (a_n_size, .inl (cI, 6, .inl g8)), (a_n_yard, .inl (cI, 5, .inl h12))] H locs → lv_has ls 4 [(0, .ref a_n), (1, .int p1), (2, .int x1), (3, .int x10)] → W p l e rm_X3_passHours s m args below meth c H locs 0 0 Q (F0 m 13 ls []) := by
          intro n
          induction n with
          | zero => intro x10 h11 h12 hF; exact (lp_no (hK013 x10 h11 h12) hF).elim
          | succ n ih13 =>
            intro x10 h11 h12 hF H locs ls hw hl
            replace hF := hK13 n x10 h11 h12 hF
            refine lv_iload_n hx hb (dq dt_X3_passHours 9 rfl) rfl (lv_at hl 3 rfl) ?_
            refine lv_aload_n hx hb (dq dt_X3_passHours 10 rfl) rfl (lv_at hl 0 rfl) ?_
            refine kGet (ci := 3) C in_X3 hw 5 rfl rfl 0 (by decide) (C.2.2.2.2.2.2.1 _ q1_119) rfl rfl (dq dt_X3_passHours 11 rfl) ?_
            refine kGet (ci := 7) C in_X7 hw 0 rfl rfl 7 (by decide) (C.2.2.2.2.2.2.1 _ q1_74) rfl rfl (dq dt_X3_passHours 12 rfl) ?_
            refine lv_icmp_ge (tgt := 35) hx hb (dq dt_X3_passHours 13 rfl) (by decide) (fun c14 => ?_) (fun c14 => ?_)
            · replace hF := if_t c14 hF
              refine lv_aload_n hx hb (dq dt_X3_passHours 19 rfl) rfl (lv_at hl 0 rfl) ?_
              refine lv_dup hx hb (dq dt_X3_passHours 20 rfl) rfl ?_
              refine kGet (ci := 3) C in_X3 hw 5 rfl rfl 1 (by decide) (C.2.2.2.2.2.2.1 _ q1_120) rfl rfl (dq dt_X3_passHours 21 rfl) ?_
              refine lv_iconst (v := (1 : Int32)) hx hb (dq dt_X3_passHours 22 rfl) (by decide) ?_
              refine lv_iadd hx hb (dq dt_X3_passHours 23 rfl) ?_
              obtain ⟨v15, ev15, hF⟩ := bd_ hF
              refine kNmI ev15 ?_
              refine kPut (ci := 3) (ws' := [(a_t, .inr (7, [.int t_yards, .ref a_t_tides, .int t_seeps, .ref a_t_seepYard, .ref a_t_seepSize, .ref a_t_growth, .ref a_t_level, .int t_children, .ref a_t_kind, .ref a_t_childYard, .ref a_t_pace, .ref a_t_ear])), (a_t_tides, .inl (cI, 12, .inl t_tides)), (a_t_growth, .inl (cI, 6, .inl t_growth)), (a_t_level, .inl (cI, 6, .inl t_level)), (a_t_pace, .inl (cI, 5, .inl t_pace)), (a_n, .inr (3, [.ref a_t, .int v15, .int n_filled, .ref a_n_size, .ref a_n_yard, .int h11, .ref a_n_oranges])), (a_n_size, .inl (cI, 6, .inl g8)), (a_n_yard, .inl (cI, 5, .inl h12))]) C in_X3 tyX3 tyX3_ok nmX3 hw 5 rfl rfl 1 (by decide) (C.2.2.2.2.2.2.1 _ q1_120) rfl rfl rfl rfl (Nat.le_of_ble_eq_true rfl) rfl (dq dt_X3_passHours 24 rfl) (fun H locs hw => ?_)
              obtain ⟨v16, ev16, hF⟩ := bd_ hF
              refine lv_iinc (v := v16) (lv' := [(2, .int v16), (0, .ref a_n), (1, .int p1), (3, .int x10)]) hx hb (dq dt_X3_passHours 25 rfl) hl (k := 2) rfl ev16.symm (by decide) rfl (fun ls hl => ?_)
              refine lv_goto (tgt := 2) hx hb (dq dt_X3_passHours 26 rfl) (by decide) ?_
              exact ih6 v16 v15 h11 g8 h12 hF _ _ _ hw (lv_sub hl [1, 2, 0] rfl)
            · replace hF := if_f c14 hF
              refine lv_aload_n hx hb (dq dt_X3_passHours 14 rfl) rfl (lv_at hl 0 rfl) ?_
              refine lv_iload_n hx hb (dq dt_X3_passHours 15 rfl) rfl (lv_at hl 3 rfl) ?_
              obtain ⟨g17, g18, hr19, hF⟩ := zc2_ hF
              refine kCallV (ws2 := [(a_t, .inr (7, [.int t_yards, .ref a_t_tides, .int t_seeps, .ref a_t_seepYard, .ref a_t_seepSize, .ref a_t_growth, .ref a_t_level, .int t_children, .ref a_t_kind, .ref a_t_childYard, .ref a_t_pace, .ref a_t_ear])), (a_t_tides, .inl (cI, 12, .inl t_tides)), (a_t_growth, .inl (cI, 6, .inl t_growth)), (a_t_level, .inl (cI, 6, .inl t_level)), (a_t_pace, .inl (cI, 5, .inl t_pace)), (a_n, .inr (3, [.ref a_t, .int h2, .int n_filled, .ref a_n_size, .ref a_n_yard, .int g17, .ref a_n_oranges])), (a_n_size, .inl (cI, 6, .inl g8)), (a_n_yard, .inl (cI, 5, .inl g18))]) C hw (A_X3_walk l D cB cI cJ cZ ad a_t a_t_tides a_t_seepYard a_t_seepSize a_t_growth a_t_level a_t_kind a_t_childYard a_t_pace a_t_ear a_n a_n_size a_n_yard a_n_oranges t_yards t_seeps t_children t_pace h2 n_filled h11 h12 x10 g17 g18 hr19) (cwV 1 C.2.2.2.2.2.2.1 (w0_V0 q3_96 q3_93 q3_94 q3_95 q1_4) rfl rfl rfl kd_X3_walk ⟨Nat.le_of_ble_eq_true rfl, Nat.le_of_ble_eq_true rfl⟩) [0, 4, 5, 7] rfl rfl rfl rfl 5 3 rfl rfl hl.1 rfl rfl rfl (Nat.le_of_ble_eq_true rfl) ⟨Nat.le_of_ble_eq_true rfl, Nat.le_of_ble_eq_true rfl⟩ (dq dt_X3_passHours 16 rfl) (fun H locs hw => ?_)
              obtain ⟨v20, ev20, hF⟩ := bd_ hF
              refine lv_iinc (v := v20) (lv' := [(3, .int v20), (0, .ref a_n), (1, .int p1), (2, .int x1)]) hx hb (dq dt_X3_passHours 17 rfl) hl (k := 3) rfl ev20.symm (by decide) rfl (fun ls hl => ?_)
              refine lv_goto (tgt := 13) hx hb (dq dt_X3_passHours 18 rfl) (by decide) ?_
              exact ih13 v20 g17 g18 hF _ _ _ hw (lv_sub hl [1, 2, 3, 0] rfl)
        exact L13 _ (0 : Int32) h3 h5 hF _ _ _ hw (lv_sub hl [1, 2, 3, 0] rfl)
  exact L6 _ (0 : Int32) n_hours n_toLesser n_size n_yard hF _ _ _ hw (lv_sub hl [1, 2, 0] rfl)
def F_X8_go (t_yards : Int32) (t_seeps : Int32) (t_children : Int32) (t_tides : Nat → Int32) (t_growth : Nat → Int32) (t_level : Nat → Int32) (t_pace : Nat → Int32) (n_hours : Int32) (n_filled : Int32) (n_toLesser : Int32) (n_size : Nat → Int32) (n_yard : Nat → Int32) (p1 : Int32) : Option (Int32 × Int32 × Int32 × (Nat → Int32) × (Nat → Int32)) :=
  zc1 (F_X8_isWithin p1 (1 : Int32) (99 : Int32)) (fun v1 => if v1 = 0 then (some ((-3 : Int32), n_hours, n_toLesser, n_size, n_yard)) else (if p1 ≤ ((9999 : Int32) - n_hours) then (zc4 (F_X3_passHours t_yards t_seeps t_children t_tides t_growth t_level t_pace n_hours n_filled n_toLesser n_size n_yard p1) (fun g5 g6 g7 g8 => some (g5, g5, g6, g7, g8))) else (some ((-5 : Int32), n_hours, n_toLesser, n_size, n_yard))))
abbrev rm_X8_go : Room := { frames := 5, cells := 0, slots := 0, locals := 110 }
theorem kd_X8_go : yX8_go.cls = RX8 ∧ yX8_go.cls ≠ "java/lang/invoke/MethodHandle" ∧ yX8_go.cls ≠ "java/lang/invoke/VarHandle" ∧ (parseMethodDescriptor yX8_go.desc).map (fun d => d.parameters.length) = some 1 := by decide +kernel
set_option maxRecDepth 100000 in
set_option maxHeartbeats 4000000 in
theorem A_X8_go (l : Launch) (D : va_G) (cB cI cJ cZ : ClassId) (ad : (Nat → Nat) × (Nat → Nat)) (a_d a_x a_t a_g a_r a_n a_k a_j a_f a_e a_z a_c a_t_tides a_t_seepYard a_t_seepSize a_t_growth a_t_level a_t_kind a_t_childYard a_t_pace a_t_ear a_n_size a_n_yard a_n_oranges : Nat) (d_keptBits : Int32) (t_yards : Int32) (t_seeps : Int32) (t_children : Int32) (t_tides : Nat → Int32) (t_growth : Nat → Int32) (t_level : Nat → Int32) (t_pace : Nat → Int32) (n_hours : Int32) (n_filled : Int32) (n_toLesser : Int32) (n_size : Nat → Int32) (n_yard : Nat → Int32) (p1 : Int32) (r : Int32) (n_hours' : Int32) (n_toLesser' : Int32) (n_size' : Nat → Int32) (n_yard' : Nat → Int32) (hF : F_X8_go t_yards t_seeps t_children t_tides t_growth t_level t_pace n_hours n_filled n_toLesser n_size n_yard p1 = some (r, n_hours', n_toLesser', n_size', n_yard')) : kM l yX8_go (Cond.code yX8_go cX8_go 2 (some .int) :: W0) rm_X8_go D (kT cB cI cJ cZ) ad [.ref a_d, .int p1] [(a_d, .inr (8, [.ref a_x, .ref a_t, .ref a_g, .ref a_r, .ref a_n, .ref a_k, .ref a_j, .int d_keptBits, .ref a_f, .ref a_e, .ref a_z, .ref a_c])), (a_t, .inr (7, [.int t_yards, .ref a_t_tides, .int t_seeps, .ref a_t_seepYard, .ref a_t_seepSize, .ref a_t_growth, .ref a_t_level, .int t_children, .ref a_t_kind, .ref a_t_childYard, .ref a_t_pace, .ref a_t_ear])), (a_t_tides, .inl (cI, 12, .inl t_tides)), (a_t_growth, .inl (cI, 6, .inl t_growth)), (a_t_level, .inl (cI, 6, .inl t_level)), (a_t_pace, .inl (cI, 5, .inl t_pace)), (a_n, .inr (3, [.ref a_t, .int n_hours, .int n_filled, .ref a_n_size, .ref a_n_yard, .int n_toLesser, .ref a_n_oranges])), (a_n_size, .inl (cI, 6, .inl n_size)), (a_n_yard, .inl (cI, 5, .inl n_yard))] (some (.int r)) [(a_d, .inr (8, [.ref a_x, .ref a_t, .ref a_g, .ref a_r, .ref a_n, .ref a_k, .ref a_j, .int d_keptBits, .ref a_f, .ref a_e, .ref a_z, .ref a_c])), (a_t, .inr (7, [.int t_yards, .ref a_t_tides, .int t_seeps, .ref a_t_seepYard, .ref a_t_seepSize, .ref a_t_growth, .ref a_t_level, .int t_children, .ref a_t_kind, .ref a_t_childYard, .ref a_t_pace, .ref a_t_ear])), (a_t_tides, .inl (cI, 12, .inl t_tides)), (a_t_growth, .inl (cI, 6, .inl t_growth)), (a_t_level, .inl (cI, 6, .inl t_level)), (a_t_pace, .inl (cI, 5, .inl t_pace)), (a_n, .inr (3, [.ref a_t, .int (n_hours'), .int n_filled, .ref a_n_size, .ref a_n_yard, .int (n_toLesser'), .ref a_n_oranges])), (a_n_size, .inl (cI, 6, .inl (n_size'))), (a_n_yard, .inl (cI, 5, .inl (n_yard')))] := by
  unfold F_X8_go at hF
  refine kStart (lv := [(0, .ref a_d), (1, .int p1)]) (own := "DikeWatch") (plainFor_of_name (by decide)) rfl (Nat.le_of_ble_eq_true rfl) rfl ?_
  intro p e s m args below meth c A Q ls hQ C hx hb hw hl
  refine lv_iload_n hx hb (dq dt_X8_go 0 rfl) rfl (lv_at hl 1 rfl) ?_
  refine lv_iconst (v := (1 : Int32)) hx hb (dq dt_X8_go 1 rfl) (by decide) ?_
  refine lv_bipush (v := (99 : Int32)) hx hb (dq dt_X8_go 2 rfl) (by decide) ?_
  obtain ⟨v1, hr2, hF⟩ := zc1_ hF
  refine kCallSP C hw (A_X8_isWithin l D cB cI cJ cZ ad p1 (1 : Int32) (99 : Int32) v1 hr2) (va_cwS 3 C.2.2.2.2.2.2.1 (w0_S0 q2_65 q2_63 q2_64 q1_1) rfl rfl rfl ke_X8_isWithin ⟨Nat.le_of_ble_eq_true rfl, Nat.le_of_ble_eq_true rfl⟩) hl.1 rfl rfl rfl (Nat.le_of_ble_eq_true rfl) ⟨Nat.le_of_ble_eq_true rfl, Nat.le_of_ble_eq_true rfl⟩ (dq dt_X8_go 3 rfl) (fun H locs hw => ?_)
  refine lv_if_ne (tgt := 13) hx hb (dq dt_X8_go 4 rfl) (by decide) (fun c3 => ?_) (fun c3 => ?_)
  · replace hF := if_f c3 hF
    refine lv_iload_n hx hb (dq dt_X8_go 7 rfl) rfl (lv_at hl 1 rfl) ?_
    refine lv_sipush (v := (9999 : Int32)) hx hb (dq dt_X8_go 8 rfl) (by decide) ?_
    refine lv_aload_n hx hb (dq dt_X8_go 9 rfl) rfl (lv_at hl 0 rfl) ?_
    refine kGet (ci := 8) C in_X8 hw 0 rfl rfl 4 (by decide) (C.2.2.2.2.2.2.1 _ q2_26) rfl rfl (dq dt_X8_go 10 rfl) ?_
    refine kGet (ci := 3) C in_X3 hw 6 rfl rfl 1 (by decide) (C.2.2.2.2.2.2.1 _ q1_122) rfl rfl (dq dt_X8_go 11 rfl) ?_
    refine lv_isub hx hb (dq dt_X8_go 12 rfl) ?_
    refine lv_icmp_le (tgt := 31) hx hb (dq dt_X8_go 13 rfl) (by decide) (fun c4 => ?_) (fun c4 => ?_)
    · replace hF := if_t c4 hF
      refine lv_aload_n hx hb (dq dt_X8_go 16 rfl) rfl (lv_at hl 0 rfl) ?_
      refine kGet (ci := 8) C in_X8 hw 0 rfl rfl 4 (by decide) (C.2.2.2.2.2.2.1 _ q2_26) rfl rfl (dq dt_X8_go 17 rfl) ?_
      refine lv_iload_n hx hb (dq dt_X8_go 18 rfl) rfl (lv_at hl 1 rfl) ?_
      obtain ⟨g5, g6, g7, g8, hr9, hF⟩ := zc4_ hF
      refine kCallV (ws2 := [(a_d, .inr (8, [.ref a_x, .ref a_t, .ref a_g, .ref a_r, .ref a_n, .ref a_k, .ref a_j, .int d_keptBits, .ref a_f, .ref a_e, .ref a_z, .ref a_c])), (a_t, .inr (7, [.int t_yards, .ref a_t_tides, .int t_seeps, .ref a_t_seepYard, .ref a_t_seepSize, .ref a_t_growth, .ref a_t_level, .int t_children, .ref a_t_kind, .ref a_t_childYard, .ref a_t_pace, .ref a_t_ear])), (a_t_tides, .inl (cI, 12, .inl t_tides)), (a_t_growth, .inl (cI, 6, .inl t_growth)), (a_t_level, .inl (cI, 6, .inl t_level)), (a_t_pace, .inl (cI, 5, .inl t_pace)), (a_n, .inr (3, [.ref a_t, .int g5, .int n_filled, .ref a_n_size, .ref a_n_yard, .int g6, .ref a_n_oranges])), (a_n_size, .inl (cI, 6, .inl g7)), (a_n_yard, .inl (cI, 5, .inl g8))]) C hw (A_X3_passHours l D cB cI cJ cZ ad a_t a_t_tides a_t_seepYard a_t_seepSize a_t_growth a_t_level a_t_kind a_t_childYard a_t_pace a_t_ear a_n a_n_size a_n_yard a_n_oranges t_yards t_seeps t_children t_tides t_growth t_level t_pace n_hours n_filled n_toLesser n_size n_yard p1 g5 g6 g7 g8 hr9) (cwV 1 C.2.2.2.2.2.2.1 (w0_V0 q3_80 q3_77 q3_78 q3_79 q1_4) rfl rfl rfl kd_X3_passHours ⟨Nat.le_of_ble_eq_true rfl, Nat.le_of_ble_eq_true rfl⟩) [1, 2, 3, 4, 5, 6, 7, 8] rfl rfl rfl rfl 6 3 rfl rfl hl.1 rfl rfl rfl (Nat.le_of_ble_eq_true rfl) ⟨Nat.le_of_ble_eq_true rfl, Nat.le_of_ble_eq_true rfl⟩ (dq dt_X8_go 19 rfl) (fun H locs hw => ?_)
      refine lv_aload_n hx hb (dq dt_X8_go 20 rfl) rfl (lv_at hl 0 rfl) ?_
      refine kGet (ci := 8) C in_X8 hw 0 rfl rfl 4 (by decide) (C.2.2.2.2.2.2.1 _ q2_26) rfl rfl (dq dt_X8_go 21 rfl) ?_
      refine kGet (ci := 3) C in_X3 hw 6 rfl rfl 1 (by decide) (C.2.2.2.2.2.2.1 _ q1_122) rfl rfl (dq dt_X8_go 22 rfl) ?_
      cases hF
      exact kRetI hQ C hw (dq dt_X8_go 23 rfl)
    · replace hF := if_f c4 hF
      refine lv_bipush (v := (-5 : Int32)) hx hb (dq dt_X8_go 14 rfl) (by decide) ?_
      cases hF
      exact kRetI hQ C hw (dq dt_X8_go 15 rfl)
  · replace hF := if_t c3 hF
    refine lv_bipush (v := (-3 : Int32)) hx hb (dq dt_X8_go 5 rfl) (by decide) ?_
    cases hF
    exact kRetI hQ C hw (dq dt_X8_go 6 rfl)
