def F_X7_hasYard (t_yards : Int32) (p1 : Int32) : Option (Int32) :=
  if p1 < 0 then (some (0 : Int32)) else (if t_yards ≤ p1 then (some (0 : Int32)) else (some (1 : Int32)))
abbrev rm_X7_hasYard : Room := { frames := 0, cells := 0, slots := 0, locals := 0 }
theorem kd_X7_hasYard : yX7_hasYard.cls = RX7 ∧ yX7_hasYard.cls ≠ "java/lang/invoke/MethodHandle" ∧ yX7_hasYard.cls ≠ "java/lang/invoke/VarHandle" ∧ (parseMethodDescriptor yX7_hasYard.desc).map (fun d => d.parameters.length) = some 1 := by decide +kernel
set_option maxRecDepth 100000 in
set_option maxHeartbeats 4000000 in
theorem A_X7_hasYard (l : Launch) (D : va_G) (cB cI cJ cZ : ClassId) (ad : (Nat → Nat) × (Nat → Nat)) (a_t a_t_tides a_t_seepYard a_t_seepSize a_t_growth a_t_level a_t_kind a_t_childYard a_t_pace a_t_ear : Nat) (t_yards : Int32) (t_seeps : Int32) (t_children : Int32) (p1 : Int32) (r : Int32) (hF : F_X7_hasYard t_yards p1 = some r) : kM l yX7_hasYard (Cond.code yX7_hasYard cX7_hasYard 2 (some .boolean) :: W0) rm_X7_hasYard D (kT cB cI cJ cZ) ad [.ref a_t, .int p1] [(a_t, .inr (7, [.int t_yards, .ref a_t_tides, .int t_seeps, .ref a_t_seepYard, .ref a_t_seepSize, .ref a_t_growth, .ref a_t_level, .int t_children, .ref a_t_kind, .ref a_t_childYard, .ref a_t_pace, .ref a_t_ear]))] (some (.int r)) [(a_t, .inr (7, [.int t_yards, .ref a_t_tides, .int t_seeps, .ref a_t_seepYard, .ref a_t_seepSize, .ref a_t_growth, .ref a_t_level, .int t_children, .ref a_t_kind, .ref a_t_childYard, .ref a_t_pace, .ref a_t_ear]))] := by
  unfold F_X7_hasYard at hF
  refine kStart (lv := [(0, .ref a_t), (1, .int p1)]) (own := "DikeWatch$Told") (plainFor_of_name (by decide)) rfl (Nat.le_of_ble_eq_true rfl) rfl ?_
  intro p e s m args below meth c A Q ls hQ C hx hb hw hl
  refine lv_iload_n hx hb (dq dt_X7_hasYard 0 rfl) rfl (lv_at hl 1 rfl) ?_
  refine lv_if_lt (tgt := 16) hx hb (dq dt_X7_hasYard 1 rfl) (by decide) (fun c1 => ?_) (fun c1 => ?_)
  · replace hF := if_t c1 hF
    refine lv_iconst (v := (0 : Int32)) hx hb (dq dt_X7_hasYard 8 rfl) (by decide) ?_
    cases hF
    exact kRetZ hQ C rfl hw (dq dt_X7_hasYard 9 rfl)
  · replace hF := if_f c1 hF
    refine lv_iload_n hx hb (dq dt_X7_hasYard 2 rfl) rfl (lv_at hl 1 rfl) ?_
    refine lv_aload_n hx hb (dq dt_X7_hasYard 3 rfl) rfl (lv_at hl 0 rfl) ?_
    refine kGet (ci := 7) C in_X7 hw 0 rfl rfl 0 (by decide) (C.2.2.2.2.2.2.1 _ q1_49) rfl rfl (dq dt_X7_hasYard 4 rfl) ?_
    refine lv_icmp_ge (tgt := 16) hx hb (dq dt_X7_hasYard 5 rfl) (by decide) (fun c2 => ?_) (fun c2 => ?_)
    · replace hF := if_t c2 hF
      refine lv_iconst (v := (0 : Int32)) hx hb (dq dt_X7_hasYard 8 rfl) (by decide) ?_
      cases hF
      exact kRetZ hQ C rfl hw (dq dt_X7_hasYard 9 rfl)
    · replace hF := if_f c2 hF
      refine lv_iconst (v := (1 : Int32)) hx hb (dq dt_X7_hasYard 6 rfl) (by decide) ?_
      refine lv_goto (tgt := 17) hx hb (dq dt_X7_hasYard 7 rfl) (by decide) ?_
      cases hF
      exact kRetZ hQ C rfl hw (dq dt_X7_hasYard 9 rfl)
def F_X3_seepsAt (t_seeps : Int32) (t_seepYard : Nat → Int32) (p1 : Int32) : Option (Int32) :=
  zl2 (fun x1 x2 ag3 => if t_seeps ≤ x2 then (some x1) else (rd 6 t_seepYard x2 (fun v5 => zj1 (fun y7 => bd (x1 ||| y7) (fun v9 => bd (x2 + (1 : Int32)) (fun v10 => ag3 v9 v10))) (fun K8 => if v5 = p1 then (K8 ((1 : Int32) <<< (x2 &&& 31))) else (K8 (0 : Int32)))))) FU (0 : Int32) (0 : Int32)
abbrev rm_X3_seepsAt : Room := { frames := 0, cells := 0, slots := 0, locals := 0 }
theorem kd_X3_seepsAt : yX3_seepsAt.cls = RX3 ∧ yX3_seepsAt.cls ≠ "java/lang/invoke/MethodHandle" ∧ yX3_seepsAt.cls ≠ "java/lang/invoke/VarHandle" ∧ (parseMethodDescriptor yX3_seepsAt.desc).map (fun d => d.parameters.length) = some 1 := by decide +kernel
set_option maxRecDepth 100000 in
set_option maxHeartbeats 4000000 in
theorem A_X3_seepsAt (l : Launch) (D : va_G) (cB cI cJ cZ : ClassId) (ad : (Nat → Nat) × (Nat → Nat)) (a_t a_t_tides a_t_seepYard a_t_seepSize a_t_growth a_t_level a_t_kind a_t_childYard a_t_pace a_t_ear a_n a_n_size a_n_yard a_n_oranges : Nat) (t_yards : Int32) (t_seeps : Int32) (t_children : Int32) (t_seepYard : Nat → Int32) (n_hours : Int32) (n_filled : Int32) (n_toLesser : Int32) (p1 : Int32) (r : Int32) (hF : F_X3_seepsAt t_seeps t_seepYard p1 = some r) : kM l yX3_seepsAt (Cond.code yX3_seepsAt cX3_seepsAt 4 (some .int) :: W0) rm_X3_seepsAt D (kT cB cI cJ cZ) ad [.ref a_n, .int p1] [(a_t, .inr (7, [.int t_yards, .ref a_t_tides, .int t_seeps, .ref a_t_seepYard, .ref a_t_seepSize, .ref a_t_growth, .ref a_t_level, .int t_children, .ref a_t_kind, .ref a_t_childYard, .ref a_t_pace, .ref a_t_ear])), (a_t_seepYard, .inl (cI, 6, .inl t_seepYard)), (a_n, .inr (3, [.ref a_t, .int n_hours, .int n_filled, .ref a_n_size, .ref a_n_yard, .int n_toLesser, .ref a_n_oranges]))] (some (.int r)) [(a_t, .inr (7, [.int t_yards, .ref a_t_tides, .int t_seeps, .ref a_t_seepYard, .ref a_t_seepSize, .ref a_t_growth, .ref a_t_level, .int t_children, .ref a_t_kind, .ref a_t_childYard, .ref a_t_pace, .ref a_t_ear])), (a_t_seepYard, .inl (cI, 6, .inl t_seepYard)), (a_n, .inr (3, [.ref a_t, .int n_hours, .int n_filled, .ref a_n_size, .ref a_n_yard, .int n_toLesser, .ref a_n_oranges]))] := by
  unfold F_X3_seepsAt at hF
  refine kStart (lv := [(0, .ref a_n), (1, .int p1)]) (own := "DikeWatch$Night") (plainFor_of_name (by decide)) rfl (Nat.le_of_ble_eq_true rfl) rfl ?_
  intro p e s m args below meth c A Q ls hQ C hx hb hw hl
  refine lv_iconst (v := (0 : Int32)) hx hb (dq dt_X3_seepsAt 0 rfl) (by decide) ?_
  refine lv_istore_n (lv' := [(2, .int (0 : Int32)), (0, .ref a_n), (1, .int p1)]) hx hb (dq dt_X3_seepsAt 1 rfl) rfl hl (by decide) rfl (fun ls hl => ?_)
  refine lv_iconst (v := (0 : Int32)) hx hb (dq dt_X3_seepsAt 2 rfl) (by decide) ?_
  refine lv_istore_n (lv' := [(3, .int (0 : Int32)), (2, .int (0 : Int32)), (0, .ref a_n), (1, .int p1)]) hx hb (dq dt_X3_seepsAt 3 rfl) rfl hl (by decide) rfl (fun ls hl => ?_)
  obtain ⟨K3, hK03, hK3, hF⟩ := zl2_ hF
  have L3 : ∀ (n : Nat) (x1 : Int32) (x2 : Int32), K3 n x1 x2 = some r → ∀ (H : Heap) (locs : List Loc) (ls : Array Slot), kW D A s.heap [(a_t, .inr (7, [.int t_yards, .ref a_t_tides, .int t_seeps, .ref a_t_seepYard, .ref a_t_seepSize, .ref a_t_growth, .ref a_t_level, .int t_children, .ref a_t_kind, .ref a_t_childYard, .ref a_t_pace, .ref a_t_ear])), (a_t_seepYard, .inl (cI, 6, .inl t_seepYard)), (a_n, .inr (3, [.ref a_t, .int n_hours, .int n_filled, .ref a_n_size, .ref a_n_yard, .int n_toLesser, .ref a_n_oranges]))] H locs → lv_has ls 4 [(0, .ref a_n), (1, .int p1), (2, .int x1), (3, .int x2)] → W p l e rm_X3_seepsAt s m args below meth c H locs 0 0 Q (F0 m 4 ls []) := by
    intro n
    induction n with
    | zero => intro x1 x2 hF; exact (lp_no (hK03 x1 x2) hF).elim
    | succ n ih3 =>
      intro x1 x2 hF H locs ls hw hl
      replace hF := hK3 n x1 x2 hF
      refine lv_iload_n hx hb (dq dt_X3_seepsAt 4 rfl) rfl (lv_at hl 3 rfl) ?_
      refine lv_aload_n hx hb (dq dt_X3_seepsAt 5 rfl) rfl (lv_at hl 0 rfl) ?_
      refine kGet (ci := 3) C in_X3 hw 2 rfl rfl 0 (by decide) (C.2.2.2.2.2.2.1 _ q1_119) rfl rfl (dq dt_X3_seepsAt 6 rfl) ?_
      refine kGet (ci := 7) C in_X7 hw 0 rfl rfl 2 (by decide) (C.2.2.2.2.2.2.1 _ q1_60) rfl rfl (dq dt_X3_seepsAt 7 rfl) ?_
      refine lv_icmp_ge (tgt := 44) hx hb (dq dt_X3_seepsAt 8 rfl) (by decide) (fun c4 => ?_) (fun c4 => ?_)
      · replace hF := if_t c4 hF
        refine lv_iload_n hx hb (dq dt_X3_seepsAt 26 rfl) rfl (lv_at hl 2 rfl) ?_
        cases hF
        exact kRetI hQ C hw (dq dt_X3_seepsAt 27 rfl)
      · replace hF := if_f c4 hF
        refine lv_iload_n hx hb (dq dt_X3_seepsAt 9 rfl) rfl (lv_at hl 2 rfl) ?_
        refine lv_aload_n hx hb (dq dt_X3_seepsAt 10 rfl) rfl (lv_at hl 0 rfl) ?_
        refine kGet (ci := 3) C in_X3 hw 2 rfl rfl 0 (by decide) (C.2.2.2.2.2.2.1 _ q1_119) rfl rfl (dq dt_X3_seepsAt 11 rfl) ?_
        refine kGet (ci := 7) C in_X7 hw 0 rfl rfl 3 (by decide) (C.2.2.2.2.2.2.1 _ q1_65) rfl rfl (dq dt_X3_seepsAt 12 rfl) ?_
        refine lv_iload_n hx hb (dq dt_X3_seepsAt 13 rfl) rfl (lv_at hl 3 rfl) ?_
        obtain ⟨v5, ev5, hi6, hF⟩ := rd_ hF
        refine kIald C hw 1 1 rfl rfl hi6 ev5 (dq dt_X3_seepsAt 14 rfl) ?_
        refine lv_iload_n hx hb (dq dt_X3_seepsAt 15 rfl) rfl (lv_at hl 1 rfl) ?_
        obtain ⟨K8, hK8, hF⟩ := zj1_ hF
        have J8 : ∀ (y7 : Int32), K8 y7 = some r → ∀ (H : Heap) (locs : List Loc) (ls : Array Slot), kW D A s.heap [(a_t, .inr (7, [.int t_yards, .ref a_t_tides, .int t_seeps, .ref a_t_seepYard, .ref a_t_seepSize, .ref a_t_growth, .ref a_t_level, .int t_children, .ref a_t_kind, .ref a_t_childYard, .ref a_t_pace, .ref a_t_ear])), (a_t_seepYard, .inl (cI, 6, .inl t_seepYard)), (a_n, .inr (3, [.ref a_t, .int n_hours, .int n_filled, .ref a_n_size, .ref a_n_yard, .int n_toLesser, .ref a_n_oranges]))] H locs → lv_has ls 4 [(0, .ref a_n), (1, .int p1), (3, .int x2)] → W p l e rm_X3_seepsAt s m args below meth c H locs 0 0 Q (F0 m 36 ls [.int y7, .int x1]) := by
          intro y7 hF H locs ls hw hl
          replace hF := hK8 y7 hF
          refine lv_ior hx hb (dq dt_X3_seepsAt 22 rfl) ?_
          obtain ⟨v9, ev9, hF⟩ := bd_ hF
          refine kNmI ev9 ?_
          refine lv_istore_n (lv' := [(2, .int v9), (0, .ref a_n), (1, .int p1), (3, .int x2)]) hx hb (dq dt_X3_seepsAt 23 rfl) rfl hl (by decide) rfl (fun ls hl => ?_)
          obtain ⟨v10, ev10, hF⟩ := bd_ hF
          refine lv_iinc (v := v10) (lv' := [(3, .int v10), (2, .int v9), (0, .ref a_n), (1, .int p1)]) hx hb (dq dt_X3_seepsAt 24 rfl) hl (k := 3) rfl ev10.symm (by decide) rfl (fun ls hl => ?_)
          refine lv_goto (tgt := 4) hx hb (dq dt_X3_seepsAt 25 rfl) (by decide) ?_
          exact ih3 v9 v10 hF _ _ _ hw (lv_sub hl [2, 3, 1, 0] rfl)
        refine lv_icmp_ne (tgt := 35) hx hb (dq dt_X3_seepsAt 16 rfl) (by decide) (fun c11 => ?_) (fun c11 => ?_)
        · replace hF := if_f c11 hF
          refine lv_iconst (v := (0 : Int32)) hx hb (dq dt_X3_seepsAt 21 rfl) (by decide) ?_
          exact J8 (0 : Int32) hF _ _ _ hw (lv_sub hl [0, 1, 3] rfl)
        · replace hF := if_t c11 hF
          refine lv_iconst (v := (1 : Int32)) hx hb (dq dt_X3_seepsAt 17 rfl) (by decide) ?_
          refine lv_iload_n hx hb (dq dt_X3_seepsAt 18 rfl) rfl (lv_at hl 3 rfl) ?_
          refine lv_ishl hx hb (dq dt_X3_seepsAt 19 rfl) ?_
          refine lv_goto (tgt := 36) hx hb (dq dt_X3_seepsAt 20 rfl) (by decide) ?_
          exact J8 ((1 : Int32) <<< (x2 &&& 31)) hF _ _ _ hw (lv_sub hl [0, 1, 3] rfl)
  exact L3 _ (0 : Int32) (0 : Int32) hF _ _ _ hw (lv_sub hl [2, 3, 1, 0] rfl)
def F_X3_brokenSeeps (t_seeps : Int32) (n_size : Nat → Int32) : Option (Int32) :=
  zl2 (fun x1 x2 ag3 => if t_seeps ≤ x2 then (some x1) else (rd 6 n_size x2 (fun v5 => zj1 (fun y7 => bd (x1 ||| y7) (fun v9 => bd (x2 + (1 : Int32)) (fun v10 => ag3 v9 v10))) (fun K8 => if v5 < (100 : Int32) then (K8 (0 : Int32)) else (K8 ((1 : Int32) <<< (x2 &&& 31))))))) FU (0 : Int32) (0 : Int32)
abbrev rm_X3_brokenSeeps : Room := { frames := 0, cells := 0, slots := 0, locals := 0 }
theorem kd_X3_brokenSeeps : yX3_brokenSeeps.cls = RX3 ∧ yX3_brokenSeeps.cls ≠ "java/lang/invoke/MethodHandle" ∧ yX3_brokenSeeps.cls ≠ "java/lang/invoke/VarHandle" ∧ (parseMethodDescriptor yX3_brokenSeeps.desc).map (fun d => d.parameters.length) = some 0 := by decide +kernel
set_option maxRecDepth 100000 in
set_option maxHeartbeats 4000000 in
theorem A_X3_brokenSeeps (l : Launch) (D : va_G) (cB cI cJ cZ : ClassId) (ad : (Nat → Nat) × (Nat → Nat)) (a_t a_t_tides a_t_seepYard a_t_seepSize a_t_growth a_t_level a_t_kind a_t_childYard a_t_pace a_t_ear a_n a_n_size a_n_yard a_n_oranges : Nat) (t_yards : Int32) (t_seeps : Int32) (t_children : Int32) (n_hours : Int32) (n_filled : Int32) (n_toLesser : Int32) (n_size : Nat → Int32) (r : Int32) (hF : F_X3_brokenSeeps t_seeps n_size = some r) : kM l yX3_brokenSeeps (Cond.code yX3_brokenSeeps cX3_brokenSeeps 3 (some .int) :: W0) rm_X3_brokenSeeps D (kT cB cI cJ cZ) ad [.ref a_n] [(a_t, .inr (7, [.int t_yards, .ref a_t_tides, .int t_seeps, .ref a_t_seepYard, .ref a_t_seepSize, .ref a_t_growth, .ref a_t_level, .int t_children, .ref a_t_kind, .ref a_t_childYard, .ref a_t_pace, .ref a_t_ear])), (a_n, .inr (3, [.ref a_t, .int n_hours, .int n_filled, .ref a_n_size, .ref a_n_yard, .int n_toLesser, .ref a_n_oranges])), (a_n_size, .inl (cI, 6, .inl n_size))] (some (.int r)) [(a_t, .inr (7, [.int t_yards, .ref a_t_tides, .int t_seeps, .ref a_t_seepYard, .ref a_t_seepSize, .ref a_t_growth, .ref a_t_level, .int t_children, .ref a_t_kind, .ref a_t_childYard, .ref a_t_pace, .ref a_t_ear])), (a_n, .inr (3, [.ref a_t, .int n_hours, .int n_filled, .ref a_n_size, .ref a_n_yard, .int n_toLesser, .ref a_n_oranges])), (a_n_size, .inl (cI, 6, .inl n_size))] := by
  unfold F_X3_brokenSeeps at hF
  refine kStart (lv := [(0, .ref a_n)]) (own := "DikeWatch$Night") (plainFor_of_name (by decide)) rfl (Nat.le_of_ble_eq_true rfl) rfl ?_
  intro p e s m args below meth c A Q ls hQ C hx hb hw hl
  refine lv_iconst (v := (0 : Int32)) hx hb (dq dt_X3_brokenSeeps 0 rfl) (by decide) ?_
  refine lv_istore_n (lv' := [(1, .int (0 : Int32)), (0, .ref a_n)]) hx hb (dq dt_X3_brokenSeeps 1 rfl) rfl hl (by decide) rfl (fun ls hl => ?_)
  refine lv_iconst (v := (0 : Int32)) hx hb (dq dt_X3_brokenSeeps 2 rfl) (by decide) ?_
  refine lv_istore_n (lv' := [(2, .int (0 : Int32)), (1, .int (0 : Int32)), (0, .ref a_n)]) hx hb (dq dt_X3_brokenSeeps 3 rfl) rfl hl (by decide) rfl (fun ls hl => ?_)
  obtain ⟨K3, hK03, hK3, hF⟩ := zl2_ hF
  have L3 : ∀ (n : Nat) (x1 : Int32) (x2 : Int32), K3 n x1 x2 = some r → ∀ (H : Heap) (locs : List Loc) (ls : Array Slot), kW D A s.heap [(a_t, .inr (7, [.int t_yards, .ref a_t_tides, .int t_seeps, .ref a_t_seepYard, .ref a_t_seepSize, .ref a_t_growth, .ref a_t_level, .int t_children, .ref a_t_kind, .ref a_t_childYard, .ref a_t_pace, .ref a_t_ear])), (a_n, .inr (3, [.ref a_t, .int n_hours, .int n_filled, .ref a_n_size, .ref a_n_yard, .int n_toLesser, .ref a_n_oranges])), (a_n_size, .inl (cI, 6, .inl n_size))] H locs → lv_has ls 3 [(0, .ref a_n), (1, .int x1), (2, .int x2)] → W p l e rm_X3_brokenSeeps s m args below meth c H locs 0 0 Q (F0 m 4 ls []) := by
    intro n
    induction n with
    | zero => intro x1 x2 hF; exact (lp_no (hK03 x1 x2) hF).elim
    | succ n ih3 =>
      intro x1 x2 hF H locs ls hw hl
      replace hF := hK3 n x1 x2 hF
      refine lv_iload_n hx hb (dq dt_X3_brokenSeeps 4 rfl) rfl (lv_at hl 2 rfl) ?_
      refine lv_aload_n hx hb (dq dt_X3_brokenSeeps 5 rfl) rfl (lv_at hl 0 rfl) ?_
      refine kGet (ci := 3) C in_X3 hw 1 rfl rfl 0 (by decide) (C.2.2.2.2.2.2.1 _ q1_119) rfl rfl (dq dt_X3_brokenSeeps 6 rfl) ?_
      refine kGet (ci := 7) C in_X7 hw 0 rfl rfl 2 (by decide) (C.2.2.2.2.2.2.1 _ q1_60) rfl rfl (dq dt_X3_brokenSeeps 7 rfl) ?_
      refine lv_icmp_ge (tgt := 42) hx hb (dq dt_X3_brokenSeeps 8 rfl) (by decide) (fun c4 => ?_) (fun c4 => ?_)
      · replace hF := if_t c4 hF
        refine lv_iload_n hx hb (dq dt_X3_brokenSeeps 25 rfl) rfl (lv_at hl 1 rfl) ?_
        cases hF
        exact kRetI hQ C hw (dq dt_X3_brokenSeeps 26 rfl)
      · replace hF := if_f c4 hF
        refine lv_iload_n hx hb (dq dt_X3_brokenSeeps 9 rfl) rfl (lv_at hl 1 rfl) ?_
        refine lv_aload_n hx hb (dq dt_X3_brokenSeeps 10 rfl) rfl (lv_at hl 0 rfl) ?_
        refine kGet (ci := 3) C in_X3 hw 1 rfl rfl 3 (by decide) (C.2.2.2.2.2.2.1 _ q1_125) rfl rfl (dq dt_X3_brokenSeeps 11 rfl) ?_
        refine lv_iload_n hx hb (dq dt_X3_brokenSeeps 12 rfl) rfl (lv_at hl 2 rfl) ?_
        obtain ⟨v5, ev5, hi6, hF⟩ := rd_ hF
        refine kIald C hw 2 1 rfl rfl hi6 ev5 (dq dt_X3_brokenSeeps 13 rfl) ?_
        refine lv_bipush (v := (100 : Int32)) hx hb (dq dt_X3_brokenSeeps 14 rfl) (by decide) ?_
        obtain ⟨K8, hK8, hF⟩ := zj1_ hF
        have J8 : ∀ (y7 : Int32), K8 y7 = some r → ∀ (H : Heap) (locs : List Loc) (ls : Array Slot), kW D A s.heap [(a_t, .inr (7, [.int t_yards, .ref a_t_tides, .int t_seeps, .ref a_t_seepYard, .ref a_t_seepSize, .ref a_t_growth, .ref a_t_level, .int t_children, .ref a_t_kind, .ref a_t_childYard, .ref a_t_pace, .ref a_t_ear])), (a_n, .inr (3, [.ref a_t, .int n_hours, .int n_filled, .ref a_n_size, .ref a_n_yard, .int n_toLesser, .ref a_n_oranges])), (a_n_size, .inl (cI, 6, .inl n_size))] H locs → lv_has ls 3 [(0, .ref a_n), (2, .int x2)] → W p l e rm_X3_brokenSeeps s m args below meth c H locs 0 0 Q (F0 m 34 ls [.int y7, .int x1]) := by
          intro y7 hF H locs ls hw hl
          replace hF := hK8 y7 hF
          refine lv_ior hx hb (dq dt_X3_brokenSeeps 21 rfl) ?_
          obtain ⟨v9, ev9, hF⟩ := bd_ hF
          refine kNmI ev9 ?_
          refine lv_istore_n (lv' := [(1, .int v9), (0, .ref a_n), (2, .int x2)]) hx hb (dq dt_X3_brokenSeeps 22 rfl) rfl hl (by decide) rfl (fun ls hl => ?_)
          obtain ⟨v10, ev10, hF⟩ := bd_ hF
          refine lv_iinc (v := v10) (lv' := [(2, .int v10), (1, .int v9), (0, .ref a_n)]) hx hb (dq dt_X3_brokenSeeps 23 rfl) hl (k := 2) rfl ev10.symm (by decide) rfl (fun ls hl => ?_)
          refine lv_goto (tgt := 4) hx hb (dq dt_X3_brokenSeeps 24 rfl) (by decide) ?_
          exact ih3 v9 v10 hF _ _ _ hw (lv_sub hl [2, 1, 0] rfl)
        refine lv_icmp_lt (tgt := 33) hx hb (dq dt_X3_brokenSeeps 15 rfl) (by decide) (fun c11 => ?_) (fun c11 => ?_)
        · replace hF := if_t c11 hF
          refine lv_iconst (v := (0 : Int32)) hx hb (dq dt_X3_brokenSeeps 20 rfl) (by decide) ?_
          exact J8 (0 : Int32) hF _ _ _ hw (lv_sub hl [0, 2] rfl)
        · replace hF := if_f c11 hF
          refine lv_iconst (v := (1 : Int32)) hx hb (dq dt_X3_brokenSeeps 16 rfl) (by decide) ?_
          refine lv_iload_n hx hb (dq dt_X3_brokenSeeps 17 rfl) rfl (lv_at hl 2 rfl) ?_
          refine lv_ishl hx hb (dq dt_X3_brokenSeeps 18 rfl) ?_
          refine lv_goto (tgt := 34) hx hb (dq dt_X3_brokenSeeps 19 rfl) (by decide) ?_
          exact J8 ((1 : Int32) <<< (x2 &&& 31)) hF _ _ _ hw (lv_sub hl [0, 2] rfl)
  exact L3 _ (0 : Int32) (0 : Int32) hF _ _ _ hw (lv_sub hl [2, 1, 0] rfl)
def F_X8_orangesFor (p1 : Int32) (p2 : Int32) : Option (Int32) :=
  bd (if 0 ≤ (p1 - p2) then (p1 - p2) else 0 - (p1 - p2)) (fun v1 => bd (if (0 : Int32) < ((9 : Int32) - v1) then ((9 : Int32) - v1) else (0 : Int32)) (fun v2 => some v2))
abbrev rm_X8_orangesFor : Room := { frames := 1, cells := 0, slots := 0, locals := 40 }
theorem ke_X8_orangesFor : yX8_orangesFor.cls ≠ "java/lang/invoke/MethodHandle" ∧ yX8_orangesFor.cls ≠ "java/lang/invoke/VarHandle" ∧ (parseMethodDescriptor yX8_orangesFor.desc).map (fun d => d.parameters.length) = some 2 := by decide +kernel
set_option maxRecDepth 100000 in
set_option maxHeartbeats 4000000 in
theorem A_X8_orangesFor (l : Launch) (D : va_G) (cB cI cJ cZ : ClassId) (ad : (Nat → Nat) × (Nat → Nat)) (p1 : Int32) (p2 : Int32) (r : Int32) (hF : F_X8_orangesFor p1 p2 = some r) : kM l yX8_orangesFor (Cond.code yX8_orangesFor cX8_orangesFor 2 (some .int) :: W0) rm_X8_orangesFor D (kT cB cI cJ cZ) ad [.int p1, .int p2] [] (some (.int r)) [] := by
  unfold F_X8_orangesFor at hF
  refine kStart (lv := [(0, .int p1), (1, .int p2)]) (own := "DikeWatch") (plainFor_of_name (by decide)) rfl (Nat.le_of_ble_eq_true rfl) rfl ?_
  intro p e s m args below meth c A Q ls hQ C hx hb hw hl
  refine lv_iconst (v := (0 : Int32)) hx hb (dq dt_X8_orangesFor 0 rfl) (by decide) ?_
  refine lv_bipush (v := (9 : Int32)) hx hb (dq dt_X8_orangesFor 1 rfl) (by decide) ?_
  refine lv_iload_n hx hb (dq dt_X8_orangesFor 2 rfl) rfl (lv_at hl 0 rfl) ?_
  refine lv_iload_n hx hb (dq dt_X8_orangesFor 3 rfl) rfl (lv_at hl 1 rfl) ?_
  refine lv_isub hx hb (dq dt_X8_orangesFor 4 rfl) ?_
  refine va_mabs hx hb (C.2.2.1.trans hl.1.symm) C.2.2.2.2.2.1 (C.2.2.2.2.2.2.1 _ q3_55) (C.2.2.2.2.2.2.1 _ q3_56) (C.2.2.2.2.2.2.1 _ q1_17) (C.2.2.2.2.2.2.1 _ q3_57) (Nat.le_of_ble_eq_true rfl) (Nat.le_of_ble_eq_true rfl) (Nat.le_of_ble_eq_true rfl) (Nat.le_of_ble_eq_true rfl) (dq dt_X8_orangesFor 5 rfl) ?_
  obtain ⟨v1, ev1, hF⟩ := bd_ hF
  refine kNmI ev1 ?_
  refine lv_isub hx hb (dq dt_X8_orangesFor 6 rfl) ?_
  refine va_mmax hx hb (C.2.2.1.trans hl.1.symm) C.2.2.2.2.2.1 (C.2.2.2.2.2.2.1 _ q3_122) (C.2.2.2.2.2.2.1 _ q3_32) (C.2.2.2.2.2.2.1 _ q1_17) (C.2.2.2.2.2.2.1 _ q3_33) (Nat.le_of_ble_eq_true rfl) (Nat.le_of_ble_eq_true rfl) (Nat.le_of_ble_eq_true rfl) (Nat.le_of_ble_eq_true rfl) (dq dt_X8_orangesFor 7 rfl) ?_
  obtain ⟨v2, ev2, hF⟩ := bd_ hF
  refine kNmI ev2 ?_
  cases hF
  exact kRetI hQ C hw (dq dt_X8_orangesFor 8 rfl)
def F_X3_fillAt (t_seeps : Int32) (t_children : Int32) (t_seepYard : Nat → Int32) (t_kind : Nat → Int32) (t_ear : Nat → Int32) (n_hours : Int32) (n_filled : Int32) (n_size : Nat → Int32) (n_yard : Nat → Int32) (n_oranges : Nat → Int32) (p1 : Int32) : Option (Int32 × Int32 × (Nat → Int32)) :=
  zc1 (F_X3_seepsAt t_seeps t_seepYard p1) (fun v1 => zc1 (F_X3_brokenSeeps t_seeps n_size) (fun v3 => zj1 (fun y5 => zl3 (fun x7 x8 h9 ag10 => zj0 (bd (n_filled ||| v1) (fun v12 => some (x7, v12, h9))) (fun K11 => if t_children ≤ x8 then (K11) else (if y5 = 0 then (K11) else (zc1 (F_X3_toldBy t_seeps t_seepYard t_kind t_ear n_hours n_filled n_yard x8) (fun v15 => zj1 (fun y17 => rd 5 h9 x8 (fun v19 => bd (v19 + y17) (fun v21 => wr 5 x8 (upd h9 (x8).toNatClampNeg v21) (fun g22 => bd (x7 + y17) (fun v24 => bd (x8 + (1 : Int32)) (fun v25 => ag10 v24 v25 g22)))))) (fun K18 => if v15 = (-1 : Int32) then (K18 (0 : Int32)) else (zc1 (F_X8_orangesFor v15 p1) (fun v27 => K18 v27)))))))) FU (0 : Int32) (0 : Int32) n_oranges) (fun K6 => if ((v1 &&& (n_filled ^^^ (-1 : Int32))) &&& (v3 ^^^ (-1 : Int32))) = 0 then (K6 (0 : Int32)) else (K6 (1 : Int32)))))
abbrev rm_X3_fillAt : Room := { frames := 5, cells := 0, slots := 0, locals := 132 }
theorem kd_X3_fillAt : yX3_fillAt.cls = RX3 ∧ yX3_fillAt.cls ≠ "java/lang/invoke/MethodHandle" ∧ yX3_fillAt.cls ≠ "java/lang/invoke/VarHandle" ∧ (parseMethodDescriptor yX3_fillAt.desc).map (fun d => d.parameters.length) = some 1 := by decide +kernel
set_option maxRecDepth 100000 in
set_option maxHeartbeats 4000000 in
theorem A_X3_fillAt (l : Launch) (D : va_G) (cB cI cJ cZ : ClassId) (ad : (Nat → Nat) × (Nat → Nat)) (a_t a_t_tides a_t_seepYard a_t_seepSize a_t_growth a_t_level a_t_kind a_t_childYard a_t_pace a_t_ear a_n a_n_size a_n_yard a_n_oranges : Nat) (t_yards : Int32) (t_seeps : Int32) (t_children : Int32) (t_seepYard : Nat → Int32) (t_kind : Nat → Int32) (t_ear : Nat → Int32) (n_hours : Int32) (n_filled : Int32) (n_toLesser : Int32) (n_size : Nat → Int32) (n_yard : Nat → Int32) (n_oranges : Nat → Int32) (p1 : Int32) (r : Int32) (n_filled' : Int32) (n_oranges' : Nat → Int32) (hF : F_X3_fillAt t_seeps t_children t_seepYard t_kind t_ear n_hours n_filled n_size n_yard n_oranges p1 = some (r, n_filled', n_oranges')) : kM l yX3_fillAt (Cond.code yX3_fillAt cX3_fillAt 8 (some .int) :: W0) rm_X3_fillAt D (kT cB cI cJ cZ) ad [.ref a_n, .int p1] [(a_t, .inr (7, [.int t_yards, .ref a_t_tides, .int t_seeps, .ref a_t_seepYard, .ref a_t_seepSize, .ref a_t_growth, .ref a_t_level, .int t_children, .ref a_t_kind, .ref a_t_childYard, .ref a_t_pace, .ref a_t_ear])), (a_t_seepYard, .inl (cI, 6, .inl t_seepYard)), (a_t_kind, .inl (cI, 5, .inl t_kind)), (a_t_ear, .inl (cI, 5, .inl t_ear)), (a_n, .inr (3, [.ref a_t, .int n_hours, .int n_filled, .ref a_n_size, .ref a_n_yard, .int n_toLesser, .ref a_n_oranges])), (a_n_size, .inl (cI, 6, .inl n_size)), (a_n_yard, .inl (cI, 5, .inl n_yard)), (a_n_oranges, .inl (cI, 5, .inl n_oranges))] (some (.int r)) [(a_t, .inr (7, [.int t_yards, .ref a_t_tides, .int t_seeps, .ref a_t_seepYard, .ref a_t_seepSize, .ref a_t_growth, .ref a_t_level, .int t_children, .ref a_t_kind, .ref a_t_childYard, .ref a_t_pace, .ref a_t_ear])), (a_t_seepYard, .inl (cI, 6, .inl t_seepYard)), (a_t_kind, .inl (cI, 5, .inl t_kind)), (a_t_ear, .inl (cI, 5, .inl t_ear)), (a_n, .inr (3, [.ref a_t, .int n_hours, .int (n_filled'), .ref a_n_size, .ref a_n_yard, .int n_toLesser, .ref a_n_oranges])), (a_n_size, .inl (cI, 6, .inl n_size)), (a_n_yard, .inl (cI, 5, .inl n_yard)), (a_n_oranges, .inl (cI, 5, .inl (n_oranges')))] := by
  unfold F_X3_fillAt at hF
  refine kStart (lv := [(0, .ref a_n), (1, .int p1)]) (own := "DikeWatch$Night") (plainFor_of_name (by decide)) rfl (Nat.le_of_ble_eq_true rfl) rfl ?_
  intro p e s m args below meth c A Q ls hQ C hx hb hw hl
  refine lv_aload_n hx hb (dq dt_X3_fillAt 0 rfl) rfl (lv_at hl 0 rfl) ?_
  refine lv_iload_n hx hb (dq dt_X3_fillAt 1 rfl) rfl (lv_at hl 1 rfl) ?_
  obtain ⟨v1, hr2, hF⟩ := zc1_ hF
  refine kCallVR C hw (A_X3_seepsAt l D cB cI cJ cZ ad a_t a_t_tides a_t_seepYard a_t_seepSize a_t_growth a_t_level a_t_kind a_t_childYard a_t_pace a_t_ear a_n a_n_size a_n_yard a_n_oranges t_yards t_seeps t_children t_seepYard n_hours n_filled n_toLesser p1 v1 hr2) (cwV 1 C.2.2.2.2.2.2.1 (w0_V0 q3_113 q3_110 q3_111 q3_112 q1_4) rfl rfl rfl kd_X3_seepsAt ⟨Nat.le_of_ble_eq_true rfl, Nat.le_of_ble_eq_true rfl⟩) [0, 1, 4] rfl rfl 4 3 rfl rfl hl.1 rfl rfl rfl (Nat.le_of_ble_eq_true rfl) ⟨Nat.le_of_ble_eq_true rfl, Nat.le_of_ble_eq_true rfl⟩ (dq dt_X3_fillAt 2 rfl) (fun H locs hw => ?_)
  refine lv_istore_n (lv' := [(2, .int v1), (0, .ref a_n), (1, .int p1)]) hx hb (dq dt_X3_fillAt 3 rfl) rfl hl (by decide) rfl (fun ls hl => ?_)
  refine lv_iload_n hx hb (dq dt_X3_fillAt 4 rfl) rfl (lv_at hl 0 rfl) ?_
  refine lv_aload_n hx hb (dq dt_X3_fillAt 5 rfl) rfl (lv_at hl 1 rfl) ?_
  refine kGet (ci := 3) C in_X3 hw 4 rfl rfl 2 (by decide) (C.2.2.2.2.2.2.1 _ q1_123) rfl rfl (dq dt_X3_fillAt 6 rfl) ?_
  refine lv_iconst (v := (-1 : Int32)) hx hb (dq dt_X3_fillAt 7 rfl) (by decide) ?_
  refine lv_ixor hx hb (dq dt_X3_fillAt 8 rfl) ?_
  refine lv_iand hx hb (dq dt_X3_fillAt 9 rfl) ?_
  refine lv_aload_n hx hb (dq dt_X3_fillAt 10 rfl) rfl (lv_at hl 1 rfl) ?_
  obtain ⟨v3, hr4, hF⟩ := zc1_ hF
  refine kCallVR C hw (A_X3_brokenSeeps l D cB cI cJ cZ ad a_t a_t_tides a_t_seepYard a_t_seepSize a_t_growth a_t_level a_t_kind a_t_childYard a_t_pace a_t_ear a_n a_n_size a_n_yard a_n_oranges t_yards t_seeps t_children n_hours n_filled n_toLesser n_size v3 hr4) (cwV 0 C.2.2.2.2.2.2.1 (w0_V0 q3_117 q3_114 q3_115 q3_116 q1_4) rfl rfl rfl kd_X3_brokenSeeps ⟨Nat.le_of_ble_eq_true rfl, Nat.le_of_ble_eq_true rfl⟩) [0, 4, 5] rfl rfl 4 3 rfl rfl hl.1 rfl rfl rfl (Nat.le_of_ble_eq_true rfl) ⟨Nat.le_of_ble_eq_true rfl, Nat.le_of_ble_eq_true rfl⟩ (dq dt_X3_fillAt 11 rfl) (fun H locs hw => ?_)
  refine lv_iconst (v := (-1 : Int32)) hx hb (dq dt_X3_fillAt 12 rfl) (by decide) ?_
  refine lv_ixor hx hb (dq dt_X3_fillAt 13 rfl) ?_
  refine lv_iand hx hb (dq dt_X3_fillAt 14 rfl) ?_
  obtain ⟨K6, hK6, hF⟩ := zj1_ hF
  have J6 : ∀ (y5 : Int32), K6 y5 = some (r, n_filled', n_oranges') → ∀ (H : Heap) (locs : List Loc) (ls : Array Slot), kW D A s.heap [(a_t, .inr (7, [.int t_yards, .ref a_t_tides, .int t_seeps, .ref a_t_seepYard, .ref a_t_seepSize, .ref a_t_growth, .ref a_t_level, .int t_children, .ref a_t_kind, .ref a_t_childYard, .ref a_t_pace, .ref a_t_ear])), (a_t_seepYard, .inl (cI, 6, .inl t_seepYard)), (a_t_kind, .inl (cI, 5, .inl t_kind)), (a_t_ear, .inl (cI, 5, .inl t_ear)), (a_n, .inr (3, [.ref a_t, .int n_hours, .int n_filled, .ref a_n_size, .ref a_n_yard, .int n_toLesser, .ref a_n_oranges])), (a_n_size, .inl (cI, 6, .inl n_size)), (a_n_yard, .inl (cI, 5, .inl n_yard)), (a_n_oranges, .inl (cI, 5, .inl n_oranges))] H locs → lv_has ls 8 [(0, .ref a_n), (1, .int p1), (2, .int v1)] → W p l e rm_X3_fillAt s m args below meth c H locs 0 0 Q (F0 m 29 ls [.int y5]) := by
    intro y5 hF H locs ls hw hl
    replace hF := hK6 y5 hF
    refine lv_istore_n (lv' := [(3, .int y5), (0, .ref a_n), (1, .int p1), (2, .int v1)]) hx hb (dq dt_X3_fillAt 19 rfl) rfl hl (by decide) rfl (fun ls hl => ?_)
    refine lv_iconst (v := (0 : Int32)) hx hb (dq dt_X3_fillAt 20 rfl) (by decide) ?_
    refine lv_istore (lv' := [(4, .int (0 : Int32)), (3, .int y5), (0, .ref a_n), (1, .int p1), (2, .int v1)]) hx hb (dq dt_X3_fillAt 21 rfl) hl (by decide) rfl (fun ls hl => ?_)
    refine lv_iconst (v := (0 : Int32)) hx hb (dq dt_X3_fillAt 22 rfl) (by decide) ?_
    refine lv_istore (lv' := [(5, .int (0 : Int32)), (4, .int (0 : Int32)), (3, .int y5), (0, .ref a_n), (1, .int p1), (2, .int v1)]) hx hb (dq dt_X3_fillAt 23 rfl) hl (by decide) rfl (fun ls hl => ?_)
    obtain ⟨K10, hK010, hK10, hF⟩ := zl3_ hF
    have L10 : ∀ (n : Nat) (x7 : Int32) (x8 : Int32) (h9 : Nat → Int32), K10 n x7 x8 h9 = some (r, n_filled', n_oranges') → ∀ (H : Heap) (locs : List Loc) (ls : Array Slot), kW D A s.heap [(a_t, .inr (7, [.int t_yards, .ref a_t_tides, .int t_seeps, .ref a_t_seepYard, .ref a_t_seepSize, .ref a_t_growth, .ref a_t_level, .int t_children, .ref a_t_kind, .ref a_t_childYard, .ref a_t_pace, .ref a_t_ear])), (a_t_seepYard, .inl (cI, 6, .inl t_seepYard)), (a_t_kind, .inl (cI, 5, .inl t_kind)), (a_t_ear, .inl (cI, 5, .inl t_ear)), (a_n, .inr (3, [.ref a_t, .int n_hours, .int n_filled, .ref a_n_size, .ref a_n_yard, .int n_toLesser, .ref a_n_oranges])), (a_n_size, .inl (cI, 6, .inl n_size)), (a_n_yard, .inl (cI, 5, .inl n_yard)), (a_n_oranges, .inl (cI, 5, .inl h9))] H locs → lv_has ls 8 [(0, .ref a_n), (1, .int p1), (2, .int v1), (3, .int y5), (4, .int x7), (5, .int x8)] → W p l e rm_X3_fillAt s m args below meth c H locs 0 0 Q (F0 m 36 ls []) := by
      intro n
      induction n with
      | zero => intro x7 x8 h9 hF; exact (lp_no (hK010 x7 x8 h9) hF).elim
      | succ n ih10 =>
        intro x7 x8 h9 hF H locs ls hw hl
        replace hF := hK10 n x7 x8 h9 hF
        refine lv_iload hx hb (dq dt_X3_fillAt 24 rfl) (lv_at hl 5 rfl) ?_
        refine lv_aload_n hx hb (dq dt_X3_fillAt 25 rfl) rfl (lv_at hl 0 rfl) ?_
        refine kGet (ci := 3) C in_X3 hw 4 rfl rfl 0 (by decide) (C.2.2.2.2.2.2.1 _ q1_119) rfl rfl (dq dt_X3_fillAt 26 rfl) ?_
        refine kGet (ci := 7) C in_X7 hw 0 rfl rfl 7 (by decide) (C.2.2.2.2.2.2.1 _ q1_74) rfl rfl (dq dt_X3_fillAt 27 rfl) ?_
        obtain ⟨K11, hK11, hF⟩ := zj0_ hF
        have J11 : K11 = some (r, n_filled', n_oranges') → ∀ (H : Heap) (locs : List Loc) (ls : Array Slot), kW D A s.heap [(a_t, .inr (7, [.int t_yards, .ref a_t_tides, .int t_seeps, .ref a_t_seepYard, .ref a_t_seepSize, .ref a_t_growth, .ref a_t_level, .int t_children, .ref a_t_kind, .ref a_t_childYard, .ref a_t_pace, .ref a_t_ear])), (a_t_seepYard, .inl (cI, 6, .inl t_seepYard)), (a_t_kind, .inl (cI, 5, .inl t_kind)), (a_t_ear, .inl (cI, 5, .inl t_ear)), (a_n, .inr (3, [.ref a_t, .int n_hours, .int n_filled, .ref a_n_size, .ref a_n_yard, .int n_toLesser, .ref a_n_oranges])), (a_n_size, .inl (cI, 6, .inl n_size)), (a_n_yard, .inl (cI, 5, .inl n_yard)), (a_n_oranges, .inl (cI, 5, .inl h9))] H locs → lv_has ls 8 [(0, .ref a_n), (2, .int v1), (4, .int x7)] → W p l e rm_X3_fillAt s m args below meth c H locs 0 0 Q (F0 m 103 ls []) := by
          intro hF H locs ls hw hl
          replace hF := hK11 hF
          refine lv_aload_n hx hb (dq dt_X3_fillAt 58 rfl) rfl (lv_at hl 0 rfl) ?_
          refine lv_dup hx hb (dq dt_X3_fillAt 59 rfl) rfl ?_
          refine kGet (ci := 3) C in_X3 hw 4 rfl rfl 2 (by decide) (C.2.2.2.2.2.2.1 _ q1_123) rfl rfl (dq dt_X3_fillAt 60 rfl) ?_
          refine lv_iload_n hx hb (dq dt_X3_fillAt 61 rfl) rfl (lv_at hl 1 rfl) ?_
          refine lv_ior hx hb (dq dt_X3_fillAt 62 rfl) ?_
          obtain ⟨v12, ev12, hF⟩ := bd_ hF
          refine kNmI ev12 ?_
          refine kPut (ci := 3) (ws' := [(a_t, .inr (7, [.int t_yards, .ref a_t_tides, .int t_seeps, .ref a_t_seepYard, .ref a_t_seepSize, .ref a_t_growth, .ref a_t_level, .int t_children, .ref a_t_kind, .ref a_t_childYard, .ref a_t_pace, .ref a_t_ear])), (a_t_seepYard, .inl (cI, 6, .inl t_seepYard)), (a_t_kind, .inl (cI, 5, .inl t_kind)), (a_t_ear, .inl (cI, 5, .inl t_ear)), (a_n, .inr (3, [.ref a_t, .int n_hours, .int v12, .ref a_n_size, .ref a_n_yard, .int n_toLesser, .ref a_n_oranges])), (a_n_size, .inl (cI, 6, .inl n_size)), (a_n_yard, .inl (cI, 5, .inl n_yard)), (a_n_oranges, .inl (cI, 5, .inl h9))]) C in_X3 tyX3 tyX3_ok nmX3 hw 4 rfl rfl 2 (by decide) (C.2.2.2.2.2.2.1 _ q1_123) rfl rfl rfl rfl (Nat.le_of_ble_eq_true rfl) rfl (dq dt_X3_fillAt 63 rfl) (fun H locs hw => ?_)
          refine lv_iload hx hb (dq dt_X3_fillAt 64 rfl) (lv_at hl 2 rfl) ?_
          cases hF
          exact kRetI hQ C hw (dq dt_X3_fillAt 65 rfl)
        refine lv_icmp_ge (tgt := 103) hx hb (dq dt_X3_fillAt 28 rfl) (by decide) (fun c13 => ?_) (fun c13 => ?_)
        · replace hF := if_t c13 hF
          exact J11 hF _ _ _ hw (lv_sub hl [0, 2, 4] rfl)
        · replace hF := if_f c13 hF
          refine lv_iload_n hx hb (dq dt_X3_fillAt 29 rfl) rfl (lv_at hl 3 rfl) ?_
          refine lv_if_eq (tgt := 103) hx hb (dq dt_X3_fillAt 30 rfl) (by decide) (fun c14 => ?_) (fun c14 => ?_)
          · replace hF := if_t c14 hF
            exact J11 hF _ _ _ hw (lv_sub hl [0, 2, 4] rfl)
          · replace hF := if_f c14 hF
            refine lv_aload_n hx hb (dq dt_X3_fillAt 31 rfl) rfl (lv_at hl 0 rfl) ?_
            refine lv_iload hx hb (dq dt_X3_fillAt 32 rfl) (lv_at hl 5 rfl) ?_
            obtain ⟨v15, hr16, hF⟩ := zc1_ hF
            refine kCallVR C hw (A_X3_toldBy l D cB cI cJ cZ ad a_t a_t_tides a_t_seepYard a_t_seepSize a_t_growth a_t_level a_t_kind a_t_childYard a_t_pace a_t_ear a_n a_n_size a_n_yard a_n_oranges t_yards t_seeps t_children t_seepYard t_kind t_ear n_hours n_filled n_toLesser n_yard x8 v15 hr16) (cwV 1 C.2.2.2.2.2.2.1 (w0_V0 q3_41 q3_118 q3_39 q3_40 q1_4) rfl rfl rfl kd_X3_toldBy ⟨Nat.le_of_ble_eq_true rfl, Nat.le_of_ble_eq_true rfl⟩) [0, 1, 2, 3, 4, 6] rfl rfl 4 3 rfl rfl hl.1 rfl rfl rfl (Nat.le_of_ble_eq_true rfl) ⟨Nat.le_of_ble_eq_true rfl, Nat.le_of_ble_eq_true rfl⟩ (dq dt_X3_fillAt 33 rfl) (fun H locs hw => ?_)
            refine lv_istore (lv' := [(6, .int v15), (0, .ref a_n), (1, .int p1), (2, .int v1), (3, .int y5), (4, .int x7), (5, .int x8)]) hx hb (dq dt_X3_fillAt 34 rfl) hl (by decide) rfl (fun ls hl => ?_)
            refine lv_iload hx hb (dq dt_X3_fillAt 35 rfl) (lv_at hl 0 rfl) ?_
            refine lv_iconst (v := (-1 : Int32)) hx hb (dq dt_X3_fillAt 36 rfl) (by decide) ?_
            obtain ⟨K18, hK18, hF⟩ := zj1_ hF
            have J18 : ∀ (y17 : Int32), K18 y17 = some (r, n_filled', n_oranges') → ∀ (H : Heap) (locs : List Loc) (ls : Array Slot), kW D A s.heap [(a_t, .inr (7, [.int t_yards, .ref a_t_tides, .int t_seeps, .ref a_t_seepYard, .ref a_t_seepSize, .ref a_t_growth, .ref a_t_level, .int t_children, .ref a_t_kind, .ref a_t_childYard, .ref a_t_pace, .ref a_t_ear])), (a_t_seepYard, .inl (cI, 6, .inl t_seepYard)), (a_t_kind, .inl (cI, 5, .inl t_kind)), (a_t_ear, .inl (cI, 5, .inl t_ear)), (a_n, .inr (3, [.ref a_t, .int n_hours, .int n_filled, .ref a_n_size, .ref a_n_yard, .int n_toLesser, .ref a_n_oranges])), (a_n_size, .inl (cI, 6, .inl n_size)), (a_n_yard, .inl (cI, 5, .inl n_yard)), (a_n_oranges, .inl (cI, 5, .inl h9))] H locs → lv_has ls 8 [(0, .ref a_n), (1, .int p1), (2, .int v1), (3, .int y5), (4, .int x7), (5, .int x8)] → W p l e rm_X3_fillAt s m args below meth c H locs 0 0 Q (F0 m 76 ls [.int y17]) := by
              intro y17 hF H locs ls hw hl
              replace hF := hK18 y17 hF
              refine lv_istore (lv' := [(7, .int y17), (0, .ref a_n), (1, .int p1), (2, .int v1), (3, .int y5), (4, .int x7), (5, .int x8)]) hx hb (dq dt_X3_fillAt 43 rfl) hl (by decide) rfl (fun ls hl => ?_)
              refine lv_aload_n hx hb (dq dt_X3_fillAt 44 rfl) rfl (lv_at hl 1 rfl) ?_
              refine kGet (ci := 3) C in_X3 hw 4 rfl rfl 6 (by decide) (C.2.2.2.2.2.2.1 _ q1_131) rfl rfl (dq dt_X3_fillAt 45 rfl) ?_
              refine lv_iload hx hb (dq dt_X3_fillAt 46 rfl) (lv_at hl 6 rfl) ?_
              refine lv_dup2_11 hx hb (dq dt_X3_fillAt 47 rfl) rfl rfl ?_
              obtain ⟨v19, ev19, hi20, hF⟩ := rd_ hF
              refine kIald C hw 7 1 rfl rfl hi20 ev19 (dq dt_X3_fillAt 48 rfl) ?_
              refine lv_iload hx hb (dq dt_X3_fillAt 49 rfl) (lv_at hl 0 rfl) ?_
              refine lv_iadd hx hb (dq dt_X3_fillAt 50 rfl) ?_
              obtain ⟨v21, ev21, hF⟩ := bd_ hF
              refine kNmI ev21 ?_
              obtain ⟨g22, eg22, hi23, hF⟩ := wr_ hF
              refine kIast (ws' := [(a_t, .inr (7, [.int t_yards, .ref a_t_tides, .int t_seeps, .ref a_t_seepYard, .ref a_t_seepSize, .ref a_t_growth, .ref a_t_level, .int t_children, .ref a_t_kind, .ref a_t_childYard, .ref a_t_pace, .ref a_t_ear])), (a_t_seepYard, .inl (cI, 6, .inl t_seepYard)), (a_t_kind, .inl (cI, 5, .inl t_kind)), (a_t_ear, .inl (cI, 5, .inl t_ear)), (a_n, .inr (3, [.ref a_t, .int n_hours, .int n_filled, .ref a_n_size, .ref a_n_yard, .int n_toLesser, .ref a_n_oranges])), (a_n_size, .inl (cI, 6, .inl n_size)), (a_n_yard, .inl (cI, 5, .inl n_yard)), (a_n_oranges, .inl (cI, 5, .inl g22))]) C hw 7 1 rfl rfl hi23 eg22 rfl (dq dt_X3_fillAt 51 rfl) (fun H locs hw => ?_)
              refine lv_iload hx hb (dq dt_X3_fillAt 52 rfl) (lv_at hl 5 rfl) ?_
              refine lv_iload hx hb (dq dt_X3_fillAt 53 rfl) (lv_at hl 0 rfl) ?_
              refine lv_iadd hx hb (dq dt_X3_fillAt 54 rfl) ?_
              obtain ⟨v24, ev24, hF⟩ := bd_ hF
              refine kNmI ev24 ?_
              refine lv_istore (lv' := [(4, .int v24), (7, .int y17), (0, .ref a_n), (1, .int p1), (2, .int v1), (3, .int y5), (5, .int x8)]) hx hb (dq dt_X3_fillAt 55 rfl) hl (by decide) rfl (fun ls hl => ?_)
              obtain ⟨v25, ev25, hF⟩ := bd_ hF
              refine lv_iinc (v := v25) (lv' := [(5, .int v25), (4, .int v24), (7, .int y17), (0, .ref a_n), (1, .int p1), (2, .int v1), (3, .int y5)]) hx hb (dq dt_X3_fillAt 56 rfl) hl (k := 6) rfl ev25.symm (by decide) rfl (fun ls hl => ?_)
              refine lv_goto (tgt := 36) hx hb (dq dt_X3_fillAt 57 rfl) (by decide) ?_
              exact ih10 v24 v25 g22 hF _ _ _ hw (lv_sub hl [3, 4, 5, 6, 1, 0] rfl)
            refine lv_icmp_ne (tgt := 70) hx hb (dq dt_X3_fillAt 37 rfl) (by decide) (fun c26 => ?_) (fun c26 => ?_)
            · replace hF := if_f c26 hF
              refine lv_iload hx hb (dq dt_X3_fillAt 40 rfl) (lv_at hl 0 rfl) ?_
              refine lv_iload_n hx hb (dq dt_X3_fillAt 41 rfl) rfl (lv_at hl 2 rfl) ?_
              obtain ⟨v27, hr28, hF⟩ := zc1_ hF
              refine kCallSN C hw (A_X8_orangesFor l D cB cI cJ cZ ad v15 p1 v27 hr28) ⟨va_cnB 2 C.2.2.2.2.2.2.1 (w0_all0 q3_121) rfl rfl rfl (C.2.2.2.2.2.2.2.2.1.1 _ (List.mem_of_getElem? (i := 7) rfl)) (C.2.2.2.2.2.2.1 _ q1_1) ke_X8_orangesFor ⟨Nat.le_of_ble_eq_true rfl, Nat.le_of_ble_eq_true rfl⟩, (C.2.2.2.2.2.2.1 _ q3_120), trivial⟩ hl.1 rfl rfl rfl (Nat.le_of_ble_eq_true rfl) ⟨Nat.le_of_ble_eq_true rfl, Nat.le_of_ble_eq_true rfl⟩ (dq dt_X3_fillAt 42 rfl) (fun H locs hw => ?_)
              exact J18 v27 hF _ _ _ hw (lv_sub hl [1, 2, 3, 4, 5, 6] rfl)
            · replace hF := if_t c26 hF
              refine lv_iconst (v := (0 : Int32)) hx hb (dq dt_X3_fillAt 38 rfl) (by decide) ?_
              refine lv_goto (tgt := 76) hx hb (dq dt_X3_fillAt 39 rfl) (by decide) ?_
              exact J18 (0 : Int32) hF _ _ _ hw (lv_sub hl [1, 2, 3, 4, 5, 6] rfl)
    exact L10 _ (0 : Int32) (0 : Int32) n_oranges hF _ _ _ hw (lv_sub hl [3, 4, 5, 2, 1, 0] rfl)
  refine lv_if_eq (tgt := 28) hx hb (dq dt_X3_fillAt 15 rfl) (by decide) (fun c29 => ?_) (fun c29 => ?_)
  · replace hF := if_t c29 hF
    refine lv_iconst (v := (0 : Int32)) hx hb (dq dt_X3_fillAt 18 rfl) (by decide) ?_
    exact J6 (0 : Int32) hF _ _ _ hw (lv_sub hl [1, 2, 0] rfl)
  · replace hF := if_f c29 hF
    refine lv_iconst (v := (1 : Int32)) hx hb (dq dt_X3_fillAt 16 rfl) (by decide) ?_
    refine lv_goto (tgt := 29) hx hb (dq dt_X3_fillAt 17 rfl) (by decide) ?_
    exact J6 (1 : Int32) hF _ _ _ hw (lv_sub hl [1, 2, 0] rfl)
def F_X8_fill (t_yards : Int32) (t_seeps : Int32) (t_children : Int32) (t_seepYard : Nat → Int32) (t_kind : Nat → Int32) (t_ear : Nat → Int32) (n_hours : Int32) (n_filled : Int32) (n_size : Nat → Int32) (n_yard : Nat → Int32) (n_oranges : Nat → Int32) (p1 : Int32) : Option (Int32 × Int32 × (Nat → Int32)) :=
  zc1 (F_X7_hasYard t_yards p1) (fun v1 => if v1 = 0 then (some ((-2 : Int32), n_filled, n_oranges)) else (zc3 (F_X3_fillAt t_seeps t_children t_seepYard t_kind t_ear n_hours n_filled n_size n_yard n_oranges p1) (fun v4 g5 g6 => some (v4, g5, g6))))
abbrev rm_X8_fill : Room := { frames := 6, cells := 0, slots := 0, locals := 159 }
theorem kd_X8_fill : yX8_fill.cls = RX8 ∧ yX8_fill.cls ≠ "java/lang/invoke/MethodHandle" ∧ yX8_fill.cls ≠ "java/lang/invoke/VarHandle" ∧ (parseMethodDescriptor yX8_fill.desc).map (fun d => d.parameters.length) = some 1 := by decide +kernel
set_option maxRecDepth 100000 in
set_option maxHeartbeats 4000000 in
theorem A_X8_fill (l : Launch) (D : va_G) (cB cI cJ cZ : ClassId) (ad : (Nat → Nat) × (Nat → Nat)) (a_d a_x a_t a_g a_r a_n a_k a_j a_f a_e a_z a_c a_t_tides a_t_seepYard a_t_seepSize a_t_growth a_t_level a_t_kind a_t_childYard a_t_pace a_t_ear a_n_size a_n_yard a_n_oranges : Nat) (d_keptBits : Int32) (t_yards : Int32) (t_seeps : Int32) (t_children : Int32) (t_seepYard : Nat → Int32) (t_kind : Nat → Int32) (t_ear : Nat → Int32) (n_hours : Int32) (n_filled : Int32) (n_toLesser : Int32) (n_size : Nat → Int32) (n_yard : Nat → Int32) (n_oranges : Nat → Int32) (p1 : Int32) (r : Int32) (n_filled' : Int32) (n_oranges' : Nat → Int32) (hF : F_X8_fill t_yards t_seeps t_children t_seepYard t_kind t_ear n_hours n_filled n_size n_yard n_oranges p1 = some (r, n_filled', n_oranges')) : kM l yX8_fill (Cond.code yX8_fill cX8_fill 2 (some .int) :: W0) rm_X8_fill D (kT cB cI cJ cZ) ad [.ref a_d, .int p1] [(a_d, .inr (8, [.ref a_x, .ref a_t, .ref a_g, .ref a_r, .ref a_n, .ref a_k, .ref a_j, .int d_keptBits, .ref a_f, .ref a_e, .ref a_z, .ref a_c])), (a_t, .inr (7, [.int t_yards, .ref a_t_tides, .int t_seeps, .ref a_t_seepYard, .ref a_t_seepSize, .ref a_t_growth, .ref a_t_level, .int t_children, .ref a_t_kind, .ref a_t_childYard, .ref a_t_pace, .ref a_t_ear])), (a_t_seepYard, .inl (cI, 6, .inl t_seepYard)), (a_t_kind, .inl (cI, 5, .inl t_kind)), (a_t_ear, .inl (cI, 5, .inl t_ear)), (a_n, .inr (3, [.ref a_t, .int n_hours, .int n_filled, .ref a_n_size, .ref a_n_yard, .int n_toLesser, .ref a_n_oranges])), (a_n_size, .inl (cI, 6, .inl n_size)), (a_n_yard, .inl (cI, 5, .inl n_yard)), (a_n_oranges, .inl (cI, 5, .inl n_oranges))] (some (.int r)) [(a_d, .inr (8, [.ref a_x, .ref a_t, .ref a_g, .ref a_r, .ref a_n, .ref a_k, .ref a_j, .int d_keptBits, .ref a_f, .ref a_e, .ref a_z, .ref a_c])), (a_t, .inr (7, [.int t_yards, .ref a_t_tides, .int t_seeps, .ref a_t_seepYard, .ref a_t_seepSize, .ref a_t_growth, .ref a_t_level, .int t_children, .ref a_t_kind, .ref a_t_childYard, .ref a_t_pace, .ref a_t_ear])), (a_t_seepYard, .inl (cI, 6, .inl t_seepYard)), (a_t_kind, .inl (cI, 5, .inl t_kind)), (a_t_ear, .inl (cI, 5, .inl t_ear)), (a_n, .inr (3, [.ref a_t, .int n_hours, .int (n_filled'), .ref a_n_size, .ref a_n_yard, .int n_toLesser, .ref a_n_oranges])), (a_n_size, .inl (cI, 6, .inl n_size)), (a_n_yard, .inl (cI, 5, .inl n_yard)), (a_n_oranges, .inl (cI, 5, .inl (n_oranges')))] := by
  unfold F_X8_fill at hF
  refine kStart (lv := [(0, .ref a_d), (1, .int p1)]) (own := "DikeWatch") (plainFor_of_name (by decide)) rfl (Nat.le_of_ble_eq_true rfl) rfl ?_
  intro p e s m args below meth c A Q ls hQ C hx hb hw hl
  refine lv_aload_n hx hb (dq dt_X8_fill 0 rfl) rfl (lv_at hl 0 rfl) ?_
  refine kGet (ci := 8) C in_X8 hw 0 rfl rfl 1 (by decide) (C.2.2.2.2.2.2.1 _ q2_23) rfl rfl (dq dt_X8_fill 1 rfl) ?_
  refine lv_iload_n hx hb (dq dt_X8_fill 2 rfl) rfl (lv_at hl 1 rfl) ?_
  obtain ⟨v1, hr2, hF⟩ := zc1_ hF
  refine kCallVR C hw (A_X7_hasYard l D cB cI cJ cZ ad a_t a_t_tides a_t_seepYard a_t_seepSize a_t_growth a_t_level a_t_kind a_t_childYard a_t_pace a_t_ear t_yards t_seeps t_children p1 v1 hr2) (cwV 1 C.2.2.2.2.2.2.1 (w0_V0 q3_105 q3_102 q3_103 q3_104 q1_3) rfl rfl rfl kd_X7_hasYard ⟨Nat.le_of_ble_eq_true rfl, Nat.le_of_ble_eq_true rfl⟩) [1] rfl rfl 1 7 rfl rfl hl.1 rfl rfl rfl (Nat.le_of_ble_eq_true rfl) ⟨Nat.le_of_ble_eq_true rfl, Nat.le_of_ble_eq_true rfl⟩ (dq dt_X8_fill 3 rfl) (fun H locs hw => ?_)
  refine lv_if_eq (tgt := 22) hx hb (dq dt_X8_fill 4 rfl) (by decide) (fun c3 => ?_) (fun c3 => ?_)
  · replace hF := if_t c3 hF
    refine lv_bipush (v := (-2 : Int32)) hx hb (dq dt_X8_fill 10 rfl) (by decide) ?_
    cases hF
    exact kRetI hQ C hw (dq dt_X8_fill 11 rfl)
  · replace hF := if_f c3 hF
    refine lv_aload_n hx hb (dq dt_X8_fill 5 rfl) rfl (lv_at hl 0 rfl) ?_
    refine kGet (ci := 8) C in_X8 hw 0 rfl rfl 4 (by decide) (C.2.2.2.2.2.2.1 _ q2_26) rfl rfl (dq dt_X8_fill 6 rfl) ?_
    refine lv_iload_n hx hb (dq dt_X8_fill 7 rfl) rfl (lv_at hl 1 rfl) ?_
    obtain ⟨v4, g5, g6, hr7, hF⟩ := zc3_ hF
    refine kCallV (ws2 := [(a_d, .inr (8, [.ref a_x, .ref a_t, .ref a_g, .ref a_r, .ref a_n, .ref a_k, .ref a_j, .int d_keptBits, .ref a_f, .ref a_e, .ref a_z, .ref a_c])), (a_t, .inr (7, [.int t_yards, .ref a_t_tides, .int t_seeps, .ref a_t_seepYard, .ref a_t_seepSize, .ref a_t_growth, .ref a_t_level, .int t_children, .ref a_t_kind, .ref a_t_childYard, .ref a_t_pace, .ref a_t_ear])), (a_t_seepYard, .inl (cI, 6, .inl t_seepYard)), (a_t_kind, .inl (cI, 5, .inl t_kind)), (a_t_ear, .inl (cI, 5, .inl t_ear)), (a_n, .inr (3, [.ref a_t, .int n_hours, .int g5, .ref a_n_size, .ref a_n_yard, .int n_toLesser, .ref a_n_oranges])), (a_n_size, .inl (cI, 6, .inl n_size)), (a_n_yard, .inl (cI, 5, .inl n_yard)), (a_n_oranges, .inl (cI, 5, .inl g6))]) C hw (A_X3_fillAt l D cB cI cJ cZ ad a_t a_t_tides a_t_seepYard a_t_seepSize a_t_growth a_t_level a_t_kind a_t_childYard a_t_pace a_t_ear a_n a_n_size a_n_yard a_n_oranges t_yards t_seeps t_children t_seepYard t_kind t_ear n_hours n_filled n_toLesser n_size n_yard n_oranges p1 v4 g5 g6 hr7) (cwV 1 C.2.2.2.2.2.2.1 (w0_V0 q3_109 q3_106 q3_107 q3_108 q1_4) rfl rfl rfl kd_X3_fillAt ⟨Nat.le_of_ble_eq_true rfl, Nat.le_of_ble_eq_true rfl⟩) [1, 2, 3, 4, 5, 6, 7, 8] rfl rfl rfl rfl 5 3 rfl rfl hl.1 rfl rfl rfl (Nat.le_of_ble_eq_true rfl) ⟨Nat.le_of_ble_eq_true rfl, Nat.le_of_ble_eq_true rfl⟩ (dq dt_X8_fill 8 rfl) (fun H locs hw => ?_)
    refine lv_goto (tgt := 24) hx hb (dq dt_X8_fill 9 rfl) (by decide) ?_
    cases hF
    exact kRetI hQ C hw (dq dt_X8_fill 11 rfl)
def F_X3_copyFrom (n_hours : Int32) (n_filled : Int32) (n_toLesser : Int32) (n_size : Nat → Int32) (n_yard : Nat → Int32) (n_oranges : Nat → Int32) (o_hours : Int32) (o_filled : Int32) (o_toLesser : Int32) (o_size : Nat → Int32) (o_yard : Nat → Int32) (o_oranges : Nat → Int32) : Option (Int32 × Int32 × Int32 × (Nat → Int32) × (Nat → Int32) × (Nat → Int32)) :=
  bd (va_cpy o_size n_size 0 0 6) (fun g1 => bd (va_cpy o_yard n_yard 0 0 5) (fun g2 => bd (va_cpy o_oranges n_oranges 0 0 5) (fun g3 => some (o_hours, o_filled, o_toLesser, g1, g2, g3))))
abbrev rm_X3_copyFrom : Room := { frames := 1, cells := 0, slots := 0, locals := 40 }
theorem kd_X3_copyFrom : yX3_copyFrom.cls = RX3 ∧ yX3_copyFrom.cls ≠ "java/lang/invoke/MethodHandle" ∧ yX3_copyFrom.cls ≠ "java/lang/invoke/VarHandle" ∧ (parseMethodDescriptor yX3_copyFrom.desc).map (fun d => d.parameters.length) = some 1 := by decide +kernel
set_option maxRecDepth 100000 in
set_option maxHeartbeats 4000000 in
theorem A_X3_copyFrom (l : Launch) (D : va_G) (cB cI cJ cZ : ClassId) (ad : (Nat → Nat) × (Nat → Nat)) (a_n a_t a_n_size a_n_yard a_n_oranges a_o a_o_size a_o_yard a_o_oranges : Nat) (n_hours : Int32) (n_filled : Int32) (n_toLesser : Int32) (n_size : Nat → Int32) (n_yard : Nat → Int32) (n_oranges : Nat → Int32) (o_hours : Int32) (o_filled : Int32) (o_toLesser : Int32) (o_size : Nat → Int32) (o_yard : Nat → Int32) (o_oranges : Nat → Int32) (n_hours' : Int32) (n_filled' : Int32) (n_toLesser' : Int32) (n_size' : Nat → Int32) (n_yard' : Nat → Int32) (n_oranges' : Nat → Int32) (hF : F_X3_copyFrom n_hours n_filled n_toLesser n_size n_yard n_oranges o_hours o_filled o_toLesser o_size o_yard o_oranges = some (n_hours', n_filled', n_toLesser', n_size', n_yard', n_oranges')) : kM l yX3_copyFrom (Cond.code yX3_copyFrom cX3_copyFrom 2 (none) :: W0) rm_X3_copyFrom D (kT cB cI cJ cZ) ad [.ref a_n, .ref a_o] [(a_n, .inr (3, [.ref a_t, .int n_hours, .int n_filled, .ref a_n_size, .ref a_n_yard, .int n_toLesser, .ref a_n_oranges])), (a_n_size, .inl (cI, 6, .inl n_size)), (a_n_yard, .inl (cI, 5, .inl n_yard)), (a_n_oranges, .inl (cI, 5, .inl n_oranges)), (a_o, .inr (3, [.ref a_t, .int o_hours, .int o_filled, .ref a_o_size, .ref a_o_yard, .int o_toLesser, .ref a_o_oranges])), (a_o_size, .inl (cI, 6, .inl o_size)), (a_o_yard, .inl (cI, 5, .inl o_yard)), (a_o_oranges, .inl (cI, 5, .inl o_oranges))] none [(a_n, .inr (3, [.ref a_t, .int (n_hours'), .int (n_filled'), .ref a_n_size, .ref a_n_yard, .int (n_toLesser'), .ref a_n_oranges])), (a_n_size, .inl (cI, 6, .inl (n_size'))), (a_n_yard, .inl (cI, 5, .inl (n_yard'))), (a_n_oranges, .inl (cI, 5, .inl (n_oranges'))), (a_o, .inr (3, [.ref a_t, .int o_hours, .int o_filled, .ref a_o_size, .ref a_o_yard, .int o_toLesser, .ref a_o_oranges])), (a_o_size, .inl (cI, 6, .inl o_size)), (a_o_yard, .inl (cI, 5, .inl o_yard)), (a_o_oranges, .inl (cI, 5, .inl o_oranges))] := by
  unfold F_X3_copyFrom at hF
  refine kStart (lv := [(0, .ref a_n), (1, .ref a_o)]) (own := "DikeWatch$Night") (plainFor_of_name (by decide)) rfl (Nat.le_of_ble_eq_true rfl) rfl ?_
  intro p e s m args below meth c A Q ls hQ C hx hb hw hl
  refine lv_aload_n hx hb (dq dt_X3_copyFrom 0 rfl) rfl (lv_at hl 0 rfl) ?_
  refine lv_aload_n hx hb (dq dt_X3_copyFrom 1 rfl) rfl (lv_at hl 1 rfl) ?_
  refine kGet (ci := 3) C in_X3 hw 4 rfl rfl 1 (by decide) (C.2.2.2.2.2.2.1 _ q1_120) rfl rfl (dq dt_X3_copyFrom 2 rfl) ?_
  refine kPut (ci := 3) (ws' := [(a_n, .inr (3, [.ref a_t, .int o_hours, .int n_filled, .ref a_n_size, .ref a_n_yard, .int n_toLesser, .ref a_n_oranges])), (a_n_size, .inl (cI, 6, .inl n_size)), (a_n_yard, .inl (cI, 5, .inl n_yard)), (a_n_oranges, .inl (cI, 5, .inl n_oranges)), (a_o, .inr (3, [.ref a_t, .int o_hours, .int o_filled, .ref a_o_size, .ref a_o_yard, .int o_toLesser, .ref a_o_oranges])), (a_o_size, .inl (cI, 6, .inl o_size)), (a_o_yard, .inl (cI, 5, .inl o_yard)), (a_o_oranges, .inl (cI, 5, .inl o_oranges))]) C in_X3 tyX3 tyX3_ok nmX3 hw 0 rfl rfl 1 (by decide) (C.2.2.2.2.2.2.1 _ q1_120) rfl rfl rfl rfl (Nat.le_of_ble_eq_true rfl) rfl (dq dt_X3_copyFrom 3 rfl) (fun H locs hw => ?_)
  refine lv_aload_n hx hb (dq dt_X3_copyFrom 4 rfl) rfl (lv_at hl 0 rfl) ?_
  refine lv_aload_n hx hb (dq dt_X3_copyFrom 5 rfl) rfl (lv_at hl 1 rfl) ?_
  refine kGet (ci := 3) C in_X3 hw 4 rfl rfl 2 (by decide) (C.2.2.2.2.2.2.1 _ q1_123) rfl rfl (dq dt_X3_copyFrom 6 rfl) ?_
  refine kPut (ci := 3) (ws' := [(a_n, .inr (3, [.ref a_t, .int o_hours, .int o_filled, .ref a_n_size, .ref a_n_yard, .int n_toLesser, .ref a_n_oranges])), (a_n_size, .inl (cI, 6, .inl n_size)), (a_n_yard, .inl (cI, 5, .inl n_yard)), (a_n_oranges, .inl (cI, 5, .inl n_oranges)), (a_o, .inr (3, [.ref a_t, .int o_hours, .int o_filled, .ref a_o_size, .ref a_o_yard, .int o_toLesser, .ref a_o_oranges])), (a_o_size, .inl (cI, 6, .inl o_size)), (a_o_yard, .inl (cI, 5, .inl o_yard)), (a_o_oranges, .inl (cI, 5, .inl o_oranges))]) C in_X3 tyX3 tyX3_ok nmX3 hw 0 rfl rfl 2 (by decide) (C.2.2.2.2.2.2.1 _ q1_123) rfl rfl rfl rfl (Nat.le_of_ble_eq_true rfl) rfl (dq dt_X3_copyFrom 7 rfl) (fun H locs hw => ?_)
  refine lv_aload_n hx hb (dq dt_X3_copyFrom 8 rfl) rfl (lv_at hl 1 rfl) ?_
  refine kGet (ci := 3) C in_X3 hw 4 rfl rfl 3 (by decide) (C.2.2.2.2.2.2.1 _ q1_125) rfl rfl (dq dt_X3_copyFrom 9 rfl) ?_
  refine lv_iconst (v := (0 : Int32)) hx hb (dq dt_X3_copyFrom 10 rfl) (by decide) ?_
  refine lv_aload_n hx hb (dq dt_X3_copyFrom 11 rfl) rfl (lv_at hl 0 rfl) ?_
  refine kGet (ci := 3) C in_X3 hw 0 rfl rfl 3 (by decide) (C.2.2.2.2.2.2.1 _ q1_125) rfl rfl (dq dt_X3_copyFrom 12 rfl) ?_
  refine lv_iconst (v := (0 : Int32)) hx hb (dq dt_X3_copyFrom 13 rfl) (by decide) ?_
  refine lv_bipush (v := (6 : Int32)) hx hb (dq dt_X3_copyFrom 14 rfl) (by decide) ?_
  obtain ⟨g1, eg1, hF⟩ := bd_ hF
  refine kCopyI (ws' := [(a_n, .inr (3, [.ref a_t, .int o_hours, .int o_filled, .ref a_n_size, .ref a_n_yard, .int n_toLesser, .ref a_n_oranges])), (a_n_size, .inl (cI, 6, .inl g1)), (a_n_yard, .inl (cI, 5, .inl n_yard)), (a_n_oranges, .inl (cI, 5, .inl n_oranges)), (a_o, .inr (3, [.ref a_t, .int o_hours, .int o_filled, .ref a_o_size, .ref a_o_yard, .int o_toLesser, .ref a_o_oranges])), (a_o_size, .inl (cI, 6, .inl o_size)), (a_o_yard, .inl (cI, 5, .inl o_yard)), (a_o_oranges, .inl (cI, 5, .inl o_oranges))]) C hl.1 (C.2.2.2.2.2.2.1 _ q2_227) (C.2.2.2.2.2.2.1 _ q2_88) (C.2.2.2.2.2.2.1 _ q2_87) (C.2.2.2.2.2.2.1 _ q1_11) hw 5 1 1 rfl rfl rfl (by decide) (by decide) (by decide) eg1 rfl (Nat.le_of_ble_eq_true rfl) (Nat.le_of_ble_eq_true rfl) (dq dt_X3_copyFrom 15 rfl) (fun H locs hw => ?_)
  refine lv_aload_n hx hb (dq dt_X3_copyFrom 16 rfl) rfl (lv_at hl 1 rfl) ?_
  refine kGet (ci := 3) C in_X3 hw 4 rfl rfl 4 (by decide) (C.2.2.2.2.2.2.1 _ q1_128) rfl rfl (dq dt_X3_copyFrom 17 rfl) ?_
  refine lv_iconst (v := (0 : Int32)) hx hb (dq dt_X3_copyFrom 18 rfl) (by decide) ?_
  refine lv_aload_n hx hb (dq dt_X3_copyFrom 19 rfl) rfl (lv_at hl 0 rfl) ?_
  refine kGet (ci := 3) C in_X3 hw 0 rfl rfl 4 (by decide) (C.2.2.2.2.2.2.1 _ q1_128) rfl rfl (dq dt_X3_copyFrom 20 rfl) ?_
  refine lv_iconst (v := (0 : Int32)) hx hb (dq dt_X3_copyFrom 21 rfl) (by decide) ?_
  refine lv_iconst (v := (5 : Int32)) hx hb (dq dt_X3_copyFrom 22 rfl) (by decide) ?_
  obtain ⟨g2, eg2, hF⟩ := bd_ hF
  refine kCopyI (ws' := [(a_n, .inr (3, [.ref a_t, .int o_hours, .int o_filled, .ref a_n_size, .ref a_n_yard, .int n_toLesser, .ref a_n_oranges])), (a_n_size, .inl (cI, 6, .inl g1)), (a_n_yard, .inl (cI, 5, .inl g2)), (a_n_oranges, .inl (cI, 5, .inl n_oranges)), (a_o, .inr (3, [.ref a_t, .int o_hours, .int o_filled, .ref a_o_size, .ref a_o_yard, .int o_toLesser, .ref a_o_oranges])), (a_o_size, .inl (cI, 6, .inl o_size)), (a_o_yard, .inl (cI, 5, .inl o_yard)), (a_o_oranges, .inl (cI, 5, .inl o_oranges))]) C hl.1 (C.2.2.2.2.2.2.1 _ q2_227) (C.2.2.2.2.2.2.1 _ q2_88) (C.2.2.2.2.2.2.1 _ q2_87) (C.2.2.2.2.2.2.1 _ q1_11) hw 6 2 1 rfl rfl rfl (by decide) (by decide) (by decide) eg2 rfl (Nat.le_of_ble_eq_true rfl) (Nat.le_of_ble_eq_true rfl) (dq dt_X3_copyFrom 23 rfl) (fun H locs hw => ?_)
  refine lv_aload_n hx hb (dq dt_X3_copyFrom 24 rfl) rfl (lv_at hl 0 rfl) ?_
  refine lv_aload_n hx hb (dq dt_X3_copyFrom 25 rfl) rfl (lv_at hl 1 rfl) ?_
  refine kGet (ci := 3) C in_X3 hw 4 rfl rfl 5 (by decide) (C.2.2.2.2.2.2.1 _ q1_130) rfl rfl (dq dt_X3_copyFrom 26 rfl) ?_
  refine kPut (ci := 3) (ws' := [(a_n, .inr (3, [.ref a_t, .int o_hours, .int o_filled, .ref a_n_size, .ref a_n_yard, .int o_toLesser, .ref a_n_oranges])), (a_n_size, .inl (cI, 6, .inl g1)), (a_n_yard, .inl (cI, 5, .inl g2)), (a_n_oranges, .inl (cI, 5, .inl n_oranges)), (a_o, .inr (3, [.ref a_t, .int o_hours, .int o_filled, .ref a_o_size, .ref a_o_yard, .int o_toLesser, .ref a_o_oranges])), (a_o_size, .inl (cI, 6, .inl o_size)), (a_o_yard, .inl (cI, 5, .inl o_yard)), (a_o_oranges, .inl (cI, 5, .inl o_oranges))]) C in_X3 tyX3 tyX3_ok nmX3 hw 0 rfl rfl 5 (by decide) (C.2.2.2.2.2.2.1 _ q1_130) rfl rfl rfl rfl (Nat.le_of_ble_eq_true rfl) rfl (dq dt_X3_copyFrom 27 rfl) (fun H locs hw => ?_)
  refine lv_aload_n hx hb (dq dt_X3_copyFrom 28 rfl) rfl (lv_at hl 1 rfl) ?_
  refine kGet (ci := 3) C in_X3 hw 4 rfl rfl 6 (by decide) (C.2.2.2.2.2.2.1 _ q1_131) rfl rfl (dq dt_X3_copyFrom 29 rfl) ?_
  refine lv_iconst (v := (0 : Int32)) hx hb (dq dt_X3_copyFrom 30 rfl) (by decide) ?_
  refine lv_aload_n hx hb (dq dt_X3_copyFrom 31 rfl) rfl (lv_at hl 0 rfl) ?_
  refine kGet (ci := 3) C in_X3 hw 0 rfl rfl 6 (by decide) (C.2.2.2.2.2.2.1 _ q1_131) rfl rfl (dq dt_X3_copyFrom 32 rfl) ?_
  refine lv_iconst (v := (0 : Int32)) hx hb (dq dt_X3_copyFrom 33 rfl) (by decide) ?_
  refine lv_iconst (v := (5 : Int32)) hx hb (dq dt_X3_copyFrom 34 rfl) (by decide) ?_
  obtain ⟨g3, eg3, hF⟩ := bd_ hF
  refine kCopyI (ws' := [(a_n, .inr (3, [.ref a_t, .int o_hours, .int o_filled, .ref a_n_size, .ref a_n_yard, .int o_toLesser, .ref a_n_oranges])), (a_n_size, .inl (cI, 6, .inl g1)), (a_n_yard, .inl (cI, 5, .inl g2)), (a_n_oranges, .inl (cI, 5, .inl g3)), (a_o, .inr (3, [.ref a_t, .int o_hours, .int o_filled, .ref a_o_size, .ref a_o_yard, .int o_toLesser, .ref a_o_oranges])), (a_o_size, .inl (cI, 6, .inl o_size)), (a_o_yard, .inl (cI, 5, .inl o_yard)), (a_o_oranges, .inl (cI, 5, .inl o_oranges))]) C hl.1 (C.2.2.2.2.2.2.1 _ q2_227) (C.2.2.2.2.2.2.1 _ q2_88) (C.2.2.2.2.2.2.1 _ q2_87) (C.2.2.2.2.2.2.1 _ q1_11) hw 7 3 1 rfl rfl rfl (by decide) (by decide) (by decide) eg3 rfl (Nat.le_of_ble_eq_true rfl) (Nat.le_of_ble_eq_true rfl) (dq dt_X3_copyFrom 35 rfl) (fun H locs hw => ?_)
  cases hF
  exact kRetV hQ C hw (dq dt_X3_copyFrom 36 rfl)
def F_X1_nightIn (t_yards : Int32) (t_seeps : Int32) (t_children : Int32) (t_tides : Nat → Int32) (t_growth : Nat → Int32) (t_level : Nat → Int32) (t_pace : Nat → Int32) (n_hours : Int32) (n_filled : Int32) (n_toLesser : Int32) (n_size : Nat → Int32) (n_yard : Nat → Int32) (n_oranges : Nat → Int32) (h_hours : Int32) (h_filled : Int32) (h_toLesser : Int32) (h_size : Nat → Int32) (h_yard : Nat → Int32) (h_oranges : Nat → Int32) (p1 : Int32) : Option (Int32 × Int32 × Int32 × (Nat → Int32) × (Nat → Int32) × (Nat → Int32)) :=
  zc6 (F_X3_copyFrom h_hours h_filled h_toLesser h_size h_yard h_oranges n_hours n_filled n_toLesser n_size n_yard n_oranges) (fun g1 g2 g3 g4 g5 g6 => zc4 (F_X3_passHours t_yards t_seeps t_children t_tides t_growth t_level t_pace g1 g2 g3 g4 g5 p1) (fun g8 g9 g10 g11 => some (g8, g2, g9, g10, g11, g6)))
abbrev rm_X1_nightIn : Room := { frames := 5, cells := 0, slots := 0, locals := 110 }
theorem kd_X1_nightIn : yX1_nightIn.cls = RX1 ∧ yX1_nightIn.cls ≠ "java/lang/invoke/MethodHandle" ∧ yX1_nightIn.cls ≠ "java/lang/invoke/VarHandle" ∧ (parseMethodDescriptor yX1_nightIn.desc).map (fun d => d.parameters.length) = some 1 := by decide +kernel
set_option maxRecDepth 100000 in
set_option maxHeartbeats 4000000 in
theorem A_X1_nightIn (l : Launch) (D : va_G) (cB cI cJ cZ : ClassId) (ad : (Nat → Nat) × (Nat → Nat)) (a_t a_t_tides a_t_seepYard a_t_seepSize a_t_growth a_t_level a_t_kind a_t_childYard a_t_pace a_t_ear a_n a_n_size a_n_yard a_n_oranges a_h a_h_size a_h_yard a_h_oranges a_f a_f_breakHour a_f_heardInTime : Nat) (t_yards : Int32) (t_seeps : Int32) (t_children : Int32) (t_tides : Nat → Int32) (t_growth : Nat → Int32) (t_level : Nat → Int32) (t_pace : Nat → Int32) (n_hours : Int32) (n_filled : Int32) (n_toLesser : Int32) (n_size : Nat → Int32) (n_yard : Nat → Int32) (n_oranges : Nat → Int32) (h_hours : Int32) (h_filled : Int32) (h_toLesser : Int32) (h_size : Nat → Int32) (h_yard : Nat → Int32) (h_oranges : Nat → Int32) (p1 : Int32) (h_hours' : Int32) (h_filled' : Int32) (h_toLesser' : Int32) (h_size' : Nat → Int32) (h_yard' : Nat → Int32) (h_oranges' : Nat → Int32) (hF : F_X1_nightIn t_yards t_seeps t_children t_tides t_growth t_level t_pace n_hours n_filled n_toLesser n_size n_yard n_oranges h_hours h_filled h_toLesser h_size h_yard h_oranges p1 = some (h_hours', h_filled', h_toLesser', h_size', h_yard', h_oranges')) : kM l yX1_nightIn (Cond.code yX1_nightIn cX1_nightIn 2 (Option.some (FieldType.object "DikeWatch$Night")) :: W0) rm_X1_nightIn D (kT cB cI cJ cZ) ad [.ref a_f, .int p1] [(a_t, .inr (7, [.int t_yards, .ref a_t_tides, .int t_seeps, .ref a_t_seepYard, .ref a_t_seepSize, .ref a_t_growth, .ref a_t_level, .int t_children, .ref a_t_kind, .ref a_t_childYard, .ref a_t_pace, .ref a_t_ear])), (a_t_tides, .inl (cI, 12, .inl t_tides)), (a_t_growth, .inl (cI, 6, .inl t_growth)), (a_t_level, .inl (cI, 6, .inl t_level)), (a_t_pace, .inl (cI, 5, .inl t_pace)), (a_n, .inr (3, [.ref a_t, .int n_hours, .int n_filled, .ref a_n_size, .ref a_n_yard, .int n_toLesser, .ref a_n_oranges])), (a_n_size, .inl (cI, 6, .inl n_size)), (a_n_yard, .inl (cI, 5, .inl n_yard)), (a_n_oranges, .inl (cI, 5, .inl n_oranges)), (a_h, .inr (3, [.ref a_t, .int h_hours, .int h_filled, .ref a_h_size, .ref a_h_yard, .int h_toLesser, .ref a_h_oranges])), (a_h_size, .inl (cI, 6, .inl h_size)), (a_h_yard, .inl (cI, 5, .inl h_yard)), (a_h_oranges, .inl (cI, 5, .inl h_oranges)), (a_f, .inr (1, [.ref a_t, .ref a_n, .ref a_h, .ref a_f_breakHour, .ref a_f_heardInTime]))] (some (.ref a_h)) [(a_t, .inr (7, [.int t_yards, .ref a_t_tides, .int t_seeps, .ref a_t_seepYard, .ref a_t_seepSize, .ref a_t_growth, .ref a_t_level, .int t_children, .ref a_t_kind, .ref a_t_childYard, .ref a_t_pace, .ref a_t_ear])), (a_t_tides, .inl (cI, 12, .inl t_tides)), (a_t_growth, .inl (cI, 6, .inl t_growth)), (a_t_level, .inl (cI, 6, .inl t_level)), (a_t_pace, .inl (cI, 5, .inl t_pace)), (a_n, .inr (3, [.ref a_t, .int n_hours, .int n_filled, .ref a_n_size, .ref a_n_yard, .int n_toLesser, .ref a_n_oranges])), (a_n_size, .inl (cI, 6, .inl n_size)), (a_n_yard, .inl (cI, 5, .inl n_yard)), (a_n_oranges, .inl (cI, 5, .inl n_oranges)), (a_h, .inr (3, [.ref a_t, .int (h_hours'), .int (h_filled'), .ref a_h_size, .ref a_h_yard, .int (h_toLesser'), .ref a_h_oranges])), (a_h_size, .inl (cI, 6, .inl (h_size'))), (a_h_yard, .inl (cI, 5, .inl (h_yard'))), (a_h_oranges, .inl (cI, 5, .inl (h_oranges'))), (a_f, .inr (1, [.ref a_t, .ref a_n, .ref a_h, .ref a_f_breakHour, .ref a_f_heardInTime]))] := by
  unfold F_X1_nightIn at hF
  refine kStart (lv := [(0, .ref a_f), (1, .int p1)]) (own := "DikeWatch$Foretold") (plainFor_of_name (by decide)) rfl (Nat.le_of_ble_eq_true rfl) rfl ?_
  intro p e s m args below meth c A Q ls hQ C hx hb hw hl
  refine lv_aload_n hx hb (dq dt_X1_nightIn 0 rfl) rfl (lv_at hl 0 rfl) ?_
  refine kGet (ci := 1) C in_X1 hw 13 rfl rfl 2 (by decide) (C.2.2.2.2.2.2.1 _ q1_156) rfl rfl (dq dt_X1_nightIn 1 rfl) ?_
  refine lv_aload_n hx hb (dq dt_X1_nightIn 2 rfl) rfl (lv_at hl 0 rfl) ?_
  refine kGet (ci := 1) C in_X1 hw 13 rfl rfl 1 (by decide) (C.2.2.2.2.2.2.1 _ q1_155) rfl rfl (dq dt_X1_nightIn 3 rfl) ?_
  obtain ⟨g1, g2, g3, g4, g5, g6, hr7, hF⟩ := zc6_ hF
  refine kCallV (ws2 := [(a_t, .inr (7, [.int t_yards, .ref a_t_tides, .int t_seeps, .ref a_t_seepYard, .ref a_t_seepSize, .ref a_t_growth, .ref a_t_level, .int t_children, .ref a_t_kind, .ref a_t_childYard, .ref a_t_pace, .ref a_t_ear])), (a_t_tides, .inl (cI, 12, .inl t_tides)), (a_t_growth, .inl (cI, 6, .inl t_growth)), (a_t_level, .inl (cI, 6, .inl t_level)), (a_t_pace, .inl (cI, 5, .inl t_pace)), (a_n, .inr (3, [.ref a_t, .int n_hours, .int n_filled, .ref a_n_size, .ref a_n_yard, .int n_toLesser, .ref a_n_oranges])), (a_n_size, .inl (cI, 6, .inl n_size)), (a_n_yard, .inl (cI, 5, .inl n_yard)), (a_n_oranges, .inl (cI, 5, .inl n_oranges)), (a_h, .inr (3, [.ref a_t, .int g1, .int g2, .ref a_h_size, .ref a_h_yard, .int g3, .ref a_h_oranges])), (a_h_size, .inl (cI, 6, .inl g4)), (a_h_yard, .inl (cI, 5, .inl g5)), (a_h_oranges, .inl (cI, 5, .inl g6)), (a_f, .inr (1, [.ref a_t, .ref a_n, .ref a_h, .ref a_f_breakHour, .ref a_f_heardInTime]))]) C hw (A_X3_copyFrom l D cB cI cJ cZ ad a_h a_t a_h_size a_h_yard a_h_oranges a_n a_n_size a_n_yard a_n_oranges h_hours h_filled h_toLesser h_size h_yard h_oranges n_hours n_filled n_toLesser n_size n_yard n_oranges g1 g2 g3 g4 g5 g6 hr7) (cwV 1 C.2.2.2.2.2.2.1 (w0_V0 q3_134 q3_148 q3_132 q3_133 q1_4) rfl rfl rfl kd_X3_copyFrom ⟨Nat.le_of_ble_eq_true rfl, Nat.le_of_ble_eq_true rfl⟩) [9, 10, 11, 12, 5, 6, 7, 8] rfl rfl rfl rfl 9 3 rfl rfl hl.1 rfl rfl rfl (Nat.le_of_ble_eq_true rfl) ⟨Nat.le_of_ble_eq_true rfl, Nat.le_of_ble_eq_true rfl⟩ (dq dt_X1_nightIn 4 rfl) (fun H locs hw => ?_)
  refine lv_aload_n hx hb (dq dt_X1_nightIn 5 rfl) rfl (lv_at hl 0 rfl) ?_
  refine kGet (ci := 1) C in_X1 hw 13 rfl rfl 2 (by decide) (C.2.2.2.2.2.2.1 _ q1_156) rfl rfl (dq dt_X1_nightIn 6 rfl) ?_
  refine lv_iload_n hx hb (dq dt_X1_nightIn 7 rfl) rfl (lv_at hl 1 rfl) ?_
  obtain ⟨g8, g9, g10, g11, hr12, hF⟩ := zc4_ hF
  refine kCallV (ws2 := [(a_t, .inr (7, [.int t_yards, .ref a_t_tides, .int t_seeps, .ref a_t_seepYard, .ref a_t_seepSize, .ref a_t_growth, .ref a_t_level, .int t_children, .ref a_t_kind, .ref a_t_childYard, .ref a_t_pace, .ref a_t_ear])), (a_t_tides, .inl (cI, 12, .inl t_tides)), (a_t_growth, .inl (cI, 6, .inl t_growth)), (a_t_level, .inl (cI, 6, .inl t_level)), (a_t_pace, .inl (cI, 5, .inl t_pace)), (a_n, .inr (3, [.ref a_t, .int n_hours, .int n_filled, .ref a_n_size, .ref a_n_yard, .int n_toLesser, .ref a_n_oranges])), (a_n_size, .inl (cI, 6, .inl n_size)), (a_n_yard, .inl (cI, 5, .inl n_yard)), (a_n_oranges, .inl (cI, 5, .inl n_oranges)), (a_h, .inr (3, [.ref a_t, .int g8, .int g2, .ref a_h_size, .ref a_h_yard, .int g9, .ref a_h_oranges])), (a_h_size, .inl (cI, 6, .inl g10)), (a_h_yard, .inl (cI, 5, .inl g11)), (a_h_oranges, .inl (cI, 5, .inl g6)), (a_f, .inr (1, [.ref a_t, .ref a_n, .ref a_h, .ref a_f_breakHour, .ref a_f_heardInTime]))]) C hw (A_X3_passHours l D cB cI cJ cZ ad a_t a_t_tides a_t_seepYard a_t_seepSize a_t_growth a_t_level a_t_kind a_t_childYard a_t_pace a_t_ear a_h a_h_size a_h_yard a_h_oranges t_yards t_seeps t_children t_tides t_growth t_level t_pace g1 g2 g3 g4 g5 p1 g8 g9 g10 g11 hr12) (cwV 1 C.2.2.2.2.2.2.1 (w0_V0 q3_80 q3_149 q3_78 q3_79 q1_4) rfl rfl rfl kd_X3_passHours ⟨Nat.le_of_ble_eq_true rfl, Nat.le_of_ble_eq_true rfl⟩) [0, 1, 2, 3, 4, 9, 10, 11] rfl rfl rfl rfl 9 3 rfl rfl hl.1 rfl rfl rfl (Nat.le_of_ble_eq_true rfl) ⟨Nat.le_of_ble_eq_true rfl, Nat.le_of_ble_eq_true rfl⟩ (dq dt_X1_nightIn 8 rfl) (fun H locs hw => ?_)
  refine lv_aload_n hx hb (dq dt_X1_nightIn 9 rfl) rfl (lv_at hl 0 rfl) ?_
  refine kGet (ci := 1) C in_X1 hw 13 rfl rfl 2 (by decide) (C.2.2.2.2.2.2.1 _ q1_156) rfl rfl (dq dt_X1_nightIn 10 rfl) ?_
  cases hF
  exact kRetA hQ C hw (dq dt_X1_nightIn 11 rfl)
def F_X8_later (t_yards : Int32) (t_seeps : Int32) (t_children : Int32) (t_tides : Nat → Int32) (t_seepYard : Nat → Int32) (t_growth : Nat → Int32) (t_level : Nat → Int32) (t_kind : Nat → Int32) (t_pace : Nat → Int32) (t_ear : Nat → Int32) (n_hours : Int32) (n_filled : Int32) (n_toLesser : Int32) (n_size : Nat → Int32) (n_yard : Nat → Int32) (n_oranges : Nat → Int32) (h_hours : Int32) (h_filled : Int32) (h_toLesser : Int32) (h_size : Nat → Int32) (h_yard : Nat → Int32) (h_oranges : Nat → Int32) (p1 : Int32) (p2 : Int32) (p3 : Int32) : Option (Int32 × Int32 × Int32 × Int32 × (Nat → Int32) × (Nat → Int32) × (Nat → Int32)) :=
  zc1 (F_X8_isWithin p3 (0 : Int32) (2 : Int32)) (fun v1 => if v1 = 0 then (some ((-3 : Int32), h_hours, h_filled, h_toLesser, h_size, h_yard, h_oranges)) else (zj1 (fun y4 => if y4 = 0 then (some ((-2 : Int32), h_hours, h_filled, h_toLesser, h_size, h_yard, h_oranges)) else (zc1 (F_X8_isWithin p2 (0 : Int32) (99 : Int32)) (fun v7 => if v7 = 0 then (some ((-3 : Int32), h_hours, h_filled, h_toLesser, h_size, h_yard, h_oranges)) else (zc6 (F_X1_nightIn t_yards t_seeps t_children t_tides t_growth t_level t_pace n_hours n_filled n_toLesser n_size n_yard n_oranges h_hours h_filled h_toLesser h_size h_yard h_oranges p2) (fun g10 g11 g12 g13 g14 g15 => if p3 = (0 : Int32) then (rd 6 g13 p1 (fun v18 => some (v18, g10, g11, g12, g13, g14, g15))) else (if p3 = (1 : Int32) then (rd 5 g14 p1 (fun v21 => some (v21, g10, g11, g12, g13, g14, g15))) else (zc1 (F_X3_heardBy t_seeps t_seepYard t_kind t_ear g10 g11 g14 p1) (fun v23 => some (v23, g10, g11, g12, g13, g14, g15))))))))) (fun K5 => if p3 = 0 then (zc1 (F_X7_hasSeep t_seeps p1) (fun v28 => K5 v28)) else (zc1 (F_X7_hasChild t_children p1) (fun v26 => K5 v26)))))
abbrev rm_X8_later : Room := { frames := 6, cells := 0, slots := 0, locals := 131 }
theorem kd_X8_later : yX8_later.cls = RX8 ∧ yX8_later.cls ≠ "java/lang/invoke/MethodHandle" ∧ yX8_later.cls ≠ "java/lang/invoke/VarHandle" ∧ (parseMethodDescriptor yX8_later.desc).map (fun d => d.parameters.length) = some 3 := by decide +kernel
set_option maxRecDepth 100000 in
set_option maxHeartbeats 4000000 in
theorem A_X8_later (l : Launch) (D : va_G) (cB cI cJ cZ : ClassId) (ad : (Nat → Nat) × (Nat → Nat)) (a_d a_x a_t a_g a_r a_n a_k a_j a_f a_e a_z a_c a_t_tides a_t_seepYard a_t_seepSize a_t_growth a_t_level a_t_kind a_t_childYard a_t_pace a_t_ear a_n_size a_n_yard a_n_oranges a_h a_h_size a_h_yard a_h_oranges a_f_breakHour a_f_heardInTime : Nat) (d_keptBits : Int32) (t_yards : Int32) (t_seeps : Int32) (t_children : Int32) (t_tides : Nat → Int32) (t_seepYard : Nat → Int32) (t_growth : Nat → Int32) (t_level : Nat → Int32) (t_kind : Nat → Int32) (t_pace : Nat → Int32) (t_ear : Nat → Int32) (n_hours : Int32) (n_filled : Int32) (n_toLesser : Int32) (n_size : Nat → Int32) (n_yard : Nat → Int32) (n_oranges : Nat → Int32) (h_hours : Int32) (h_filled : Int32) (h_toLesser : Int32) (h_size : Nat → Int32) (h_yard : Nat → Int32) (h_oranges : Nat → Int32) (p1 : Int32) (p2 : Int32) (p3 : Int32) (r : Int32) (h_hours' : Int32) (h_filled' : Int32) (h_toLesser' : Int32) (h_size' : Nat → Int32) (h_yard' : Nat → Int32) (h_oranges' : Nat → Int32) (hF : F_X8_later t_yards t_seeps t_children t_tides t_seepYard t_growth t_level t_kind t_pace t_ear n_hours n_filled n_toLesser n_size n_yard n_oranges h_hours h_filled h_toLesser h_size h_yard h_oranges p1 p2 p3 = some (r, h_hours', h_filled', h_toLesser', h_size', h_yard', h_oranges')) : kM l yX8_later (Cond.code yX8_later cX8_later 6 (some .int) :: W0) rm_X8_later D (kT cB cI cJ cZ) ad [.ref a_d, .int p1, .int p2, .int p3] [(a_d, .inr (8, [.ref a_x, .ref a_t, .ref a_g, .ref a_r, .ref a_n, .ref a_k, .ref a_j, .int d_keptBits, .ref a_f, .ref a_e, .ref a_z, .ref a_c])), (a_t, .inr (7, [.int t_yards, .ref a_t_tides, .int t_seeps, .ref a_t_seepYard, .ref a_t_seepSize, .ref a_t_growth, .ref a_t_level, .int t_children, .ref a_t_kind, .ref a_t_childYard, .ref a_t_pace, .ref a_t_ear])), (a_t_tides, .inl (cI, 12, .inl t_tides)), (a_t_seepYard, .inl (cI, 6, .inl t_seepYard)), (a_t_growth, .inl (cI, 6, .inl t_growth)), (a_t_level, .inl (cI, 6, .inl t_level)), (a_t_kind, .inl (cI, 5, .inl t_kind)), (a_t_pace, .inl (cI, 5, .inl t_pace)), (a_t_ear, .inl (cI, 5, .inl t_ear)), (a_n, .inr (3, [.ref a_t, .int n_hours, .int n_filled, .ref a_n_size, .ref a_n_yard, .int n_toLesser, .ref a_n_oranges])), (a_n_size, .inl (cI, 6, .inl n_size)), (a_n_yard, .inl (cI, 5, .inl n_yard)), (a_n_oranges, .inl (cI, 5, .inl n_oranges)), (a_h, .inr (3, [.ref a_t, .int h_hours, .int h_filled, .ref a_h_size, .ref a_h_yard, .int h_toLesser, .ref a_h_oranges])), (a_h_size, .inl (cI, 6, .inl h_size)), (a_h_yard, .inl (cI, 5, .inl h_yard)), (a_h_oranges, .inl (cI, 5, .inl h_oranges)), (a_f, .inr (1, [.ref a_t, .ref a_n, .ref a_h, .ref a_f_breakHour, .ref a_f_heardInTime]))] (some (.int r)) [(a_d, .inr (8, [.ref a_x, .ref a_t, .ref a_g, .ref a_r, .ref a_n, .ref a_k, .ref a_j, .int d_keptBits, .ref a_f, .ref a_e, .ref a_z, .ref a_c])), (a_t, .inr (7, [.int t_yards, .ref a_t_tides, .int t_seeps, .ref a_t_seepYard, .ref a_t_seepSize, .ref a_t_growth, .ref a_t_level, .int t_children, .ref a_t_kind, .ref a_t_childYard, .ref a_t_pace, .ref a_t_ear])), (a_t_tides, .inl (cI, 12, .inl t_tides)), (a_t_seepYard, .inl (cI, 6, .inl t_seepYard)), (a_t_growth, .inl (cI, 6, .inl t_growth)), (a_t_level, .inl (cI, 6, .inl t_level)), (a_t_kind, .inl (cI, 5, .inl t_kind)), (a_t_pace, .inl (cI, 5, .inl t_pace)), (a_t_ear, .inl (cI, 5, .inl t_ear)), (a_n, .inr (3, [.ref a_t, .int n_hours, .int n_filled, .ref a_n_size, .ref a_n_yard, .int n_toLesser, .ref a_n_oranges])), (a_n_size, .inl (cI, 6, .inl n_size)), (a_n_yard, .inl (cI, 5, .inl n_yard)), (a_n_oranges, .inl (cI, 5, .inl n_oranges)), (a_h, .inr (3, [.ref a_t, .int (h_hours'), .int (h_filled'), .ref a_h_size, .ref a_h_yard, .int (h_toLesser'), .ref a_h_oranges])), (a_h_size, .inl (cI, 6, .inl (h_size'))), (a_h_yard, .inl (cI, 5, .inl (h_yard'))), (a_h_oranges, .inl (cI, 5, .inl (h_oranges'))), (a_f, .inr (1, [.ref a_t, .ref a_n, .ref a_h, .ref a_f_breakHour, .ref a_f_heardInTime]))] := by
  unfold F_X8_later at hF
  refine kStart (lv := [(0, .ref a_d), (1, .int p1), (2, .int p2), (3, .int p3)]) (own := "DikeWatch") (plainFor_of_name (by decide)) rfl (Nat.le_of_ble_eq_true rfl) rfl ?_
  intro p e s m args below meth c A Q ls hQ C hx hb hw hl
  refine lv_iload_n hx hb (dq dt_X8_later 0 rfl) rfl (lv_at hl 3 rfl) ?_
  refine lv_iconst (v := (0 : Int32)) hx hb (dq dt_X8_later 1 rfl) (by decide) ?_
  refine lv_iconst (v := (2 : Int32)) hx hb (dq dt_X8_later 2 rfl) (by decide) ?_
  obtain ⟨v1, hr2, hF⟩ := zc1_ hF
  refine kCallSP C hw (A_X8_isWithin l D cB cI cJ cZ ad p3 (0 : Int32) (2 : Int32) v1 hr2) (va_cwS 3 C.2.2.2.2.2.2.1 (w0_S0 q2_65 q2_63 q2_64 q1_1) rfl rfl rfl ke_X8_isWithin ⟨Nat.le_of_ble_eq_true rfl, Nat.le_of_ble_eq_true rfl⟩) hl.1 rfl rfl rfl (Nat.le_of_ble_eq_true rfl) ⟨Nat.le_of_ble_eq_true rfl, Nat.le_of_ble_eq_true rfl⟩ (dq dt_X8_later 3 rfl) (fun H locs hw => ?_)
  refine lv_if_ne (tgt := 12) hx hb (dq dt_X8_later 4 rfl) (by decide) (fun c3 => ?_) (fun c3 => ?_)
  · replace hF := if_f c3 hF
    refine lv_iload_n hx hb (dq dt_X8_later 7 rfl) rfl (lv_at hl 3 rfl) ?_
    obtain ⟨K5, hK5, hF⟩ := zj1_ hF
    have J5 : ∀ (y4 : Int32), K5 y4 = some (r, h_hours', h_filled', h_toLesser', h_size', h_yard', h_oranges') → ∀ (H : Heap) (locs : List Loc) (ls : Array Slot), kW D A s.heap [(a_d, .inr (8, [.ref a_x, .ref a_t, .ref a_g, .ref a_r, .ref a_n, .ref a_k, .ref a_j, .int d_keptBits, .ref a_f, .ref a_e, .ref a_z, .ref a_c])), (a_t, .inr (7, [.int t_yards, .ref a_t_tides, .int t_seeps, .ref a_t_seepYard, .ref a_t_seepSize, .ref a_t_growth, .ref a_t_level, .int t_children, .ref a_t_kind, .ref a_t_childYard, .ref a_t_pace, .ref a_t_ear])), (a_t_tides, .inl (cI, 12, .inl t_tides)), (a_t_seepYard, .inl (cI, 6, .inl t_seepYard)), (a_t_growth, .inl (cI, 6, .inl t_growth)), (a_t_level, .inl (cI, 6, .inl t_level)), (a_t_kind, .inl (cI, 5, .inl t_kind)), (a_t_pace, .inl (cI, 5, .inl t_pace)), (a_t_ear, .inl (cI, 5, .inl t_ear)), (a_n, .inr (3, [.ref a_t, .int n_hours, .int n_filled, .ref a_n_size, .ref a_n_yard, .int n_toLesser, .ref a_n_oranges])), (a_n_size, .inl (cI, 6, .inl n_size)), (a_n_yard, .inl (cI, 5, .inl n_yard)), (a_n_oranges, .inl (cI, 5, .inl n_oranges)), (a_h, .inr (3, [.ref a_t, .int h_hours, .int h_filled, .ref a_h_size, .ref a_h_yard, .int h_toLesser, .ref a_h_oranges])), (a_h_size, .inl (cI, 6, .inl h_size)), (a_h_yard, .inl (cI, 5, .inl h_yard)), (a_h_oranges, .inl (cI, 5, .inl h_oranges)), (a_f, .inr (1, [.ref a_t, .ref a_n, .ref a_h, .ref a_f_breakHour, .ref a_f_heardInTime]))] H locs → lv_has ls 6 [(0, .ref a_d), (1, .int p1), (2, .int p2), (3, .int p3)] → W p l e rm_X8_later s m args below meth c H locs 0 0 Q (F0 m 35 ls [.int y4]) := by
      intro y4 hF H locs ls hw hl
      replace hF := hK5 y4 hF
      refine lv_istore (lv' := [(4, .int y4), (0, .ref a_d), (1, .int p1), (2, .int p2), (3, .int p3)]) hx hb (dq dt_X8_later 18 rfl) hl (by decide) rfl (fun ls hl => ?_)
      refine lv_iload hx hb (dq dt_X8_later 19 rfl) (lv_at hl 0 rfl) ?_
      refine lv_if_ne (tgt := 45) hx hb (dq dt_X8_later 20 rfl) (by decide) (fun c6 => ?_) (fun c6 => ?_)
      · replace hF := if_f c6 hF
        refine lv_iload_n hx hb (dq dt_X8_later 23 rfl) rfl (lv_at hl 3 rfl) ?_
        refine lv_iconst (v := (0 : Int32)) hx hb (dq dt_X8_later 24 rfl) (by decide) ?_
        refine lv_bipush (v := (99 : Int32)) hx hb (dq dt_X8_later 25 rfl) (by decide) ?_
        obtain ⟨v7, hr8, hF⟩ := zc1_ hF
        refine kCallSP C hw (A_X8_isWithin l D cB cI cJ cZ ad p2 (0 : Int32) (99 : Int32) v7 hr8) (va_cwS 3 C.2.2.2.2.2.2.1 (w0_S0 q2_65 q2_63 q2_64 q1_1) rfl rfl rfl ke_X8_isWithin ⟨Nat.le_of_ble_eq_true rfl, Nat.le_of_ble_eq_true rfl⟩) hl.1 rfl rfl rfl (Nat.le_of_ble_eq_true rfl) ⟨Nat.le_of_ble_eq_true rfl, Nat.le_of_ble_eq_true rfl⟩ (dq dt_X8_later 26 rfl) (fun H locs hw => ?_)
        refine lv_if_ne (tgt := 58) hx hb (dq dt_X8_later 27 rfl) (by decide) (fun c9 => ?_) (fun c9 => ?_)
        · replace hF := if_f c9 hF
          refine lv_aload_n hx hb (dq dt_X8_later 30 rfl) rfl (lv_at hl 1 rfl) ?_
          refine kGet (ci := 8) C in_X8 hw 0 rfl rfl 8 (by decide) (C.2.2.2.2.2.2.1 _ q2_30) rfl rfl (dq dt_X8_later 31 rfl) ?_
          refine lv_iload_n hx hb (dq dt_X8_later 32 rfl) rfl (lv_at hl 3 rfl) ?_
          obtain ⟨g10, g11, g12, g13, g14, g15, hr16, hF⟩ := zc6_ hF
          refine kCallV (ws2 := [(a_d, .inr (8, [.ref a_x, .ref a_t, .ref a_g, .ref a_r, .ref a_n, .ref a_k, .ref a_j, .int d_keptBits, .ref a_f, .ref a_e, .ref a_z, .ref a_c])), (a_t, .inr (7, [.int t_yards, .ref a_t_tides, .int t_seeps, .ref a_t_seepYard, .ref a_t_seepSize, .ref a_t_growth, .ref a_t_level, .int t_children, .ref a_t_kind, .ref a_t_childYard, .ref a_t_pace, .ref a_t_ear])), (a_t_tides, .inl (cI, 12, .inl t_tides)), (a_t_seepYard, .inl (cI, 6, .inl t_seepYard)), (a_t_growth, .inl (cI, 6, .inl t_growth)), (a_t_level, .inl (cI, 6, .inl t_level)), (a_t_kind, .inl (cI, 5, .inl t_kind)), (a_t_pace, .inl (cI, 5, .inl t_pace)), (a_t_ear, .inl (cI, 5, .inl t_ear)), (a_n, .inr (3, [.ref a_t, .int n_hours, .int n_filled, .ref a_n_size, .ref a_n_yard, .int n_toLesser, .ref a_n_oranges])), (a_n_size, .inl (cI, 6, .inl n_size)), (a_n_yard, .inl (cI, 5, .inl n_yard)), (a_n_oranges, .inl (cI, 5, .inl n_oranges)), (a_h, .inr (3, [.ref a_t, .int g10, .int g11, .ref a_h_size, .ref a_h_yard, .int g12, .ref a_h_oranges])), (a_h_size, .inl (cI, 6, .inl g13)), (a_h_yard, .inl (cI, 5, .inl g14)), (a_h_oranges, .inl (cI, 5, .inl g15)), (a_f, .inr (1, [.ref a_t, .ref a_n, .ref a_h, .ref a_f_breakHour, .ref a_f_heardInTime]))]) C hw (A_X1_nightIn l D cB cI cJ cZ ad a_t a_t_tides a_t_seepYard a_t_seepSize a_t_growth a_t_level a_t_kind a_t_childYard a_t_pace a_t_ear a_n a_n_size a_n_yard a_n_oranges a_h a_h_size a_h_yard a_h_oranges a_f a_f_breakHour a_f_heardInTime t_yards t_seeps t_children t_tides t_growth t_level t_pace n_hours n_filled n_toLesser n_size n_yard n_oranges h_hours h_filled h_toLesser h_size h_yard h_oranges p2 g10 g11 g12 g13 g14 g15 hr16) (cwV 1 C.2.2.2.2.2.2.1 (w0_V0 q3_147 q3_144 q3_145 q3_146 q1_5) rfl rfl rfl kd_X1_nightIn ⟨Nat.le_of_ble_eq_true rfl, Nat.le_of_ble_eq_true rfl⟩) [1, 2, 4, 5, 7, 9, 10, 11, 12, 13, 14, 15, 16, 17] rfl rfl rfl rfl 17 1 rfl rfl hl.1 rfl rfl rfl (Nat.le_of_ble_eq_true rfl) ⟨Nat.le_of_ble_eq_true rfl, Nat.le_of_ble_eq_true rfl⟩ (dq dt_X8_later 33 rfl) (fun H locs hw => ?_)
          refine lv_astore (lv' := [(5, .ref a_h), (4, .int y4), (0, .ref a_d), (1, .int p1), (2, .int p2), (3, .int p3)]) hx hb (dq dt_X8_later 34 rfl) hl (by decide) rfl (fun ls hl => ?_)
          refine lv_iload_n hx hb (dq dt_X8_later 35 rfl) rfl (lv_at hl 5 rfl) ?_
          by_cases c17 : p3 = (0 : Int32)
          · replace hF := if_t c17 hF
            refine lv_lookup (tgt := 96) (off := 27) hx hb (dq dt_X8_later 36 rfl) (by decide) (by rw [c17]; decide) (by decide) ?_
            refine lv_aload hx hb (dq dt_X8_later 37 rfl) (lv_at hl 0 rfl) ?_
            refine kGet (ci := 3) C in_X3 hw 13 rfl rfl 3 (by decide) (C.2.2.2.2.2.2.1 _ q1_127) rfl rfl (dq dt_X8_later 38 rfl) ?_
            refine lv_iload_n hx hb (dq dt_X8_later 39 rfl) rfl (lv_at hl 3 rfl) ?_
            obtain ⟨v18, ev18, hi19, hF⟩ := rd_ hF
            refine kIald C hw 14 1 rfl rfl hi19 ev18 (dq dt_X8_later 40 rfl) ?_
            cases hF
            exact kRetI hQ C hw (dq dt_X8_later 41 rfl)
          replace hF := if_f c17 hF
          by_cases c20 : p3 = (1 : Int32)
          · replace hF := if_t c20 hF
            refine lv_lookup (tgt := 104) (off := 35) hx hb (dq dt_X8_later 36 rfl) (by decide) (by rw [c20]; decide) (by decide) ?_
            refine lv_aload hx hb (dq dt_X8_later 42 rfl) (lv_at hl 0 rfl) ?_
            refine kGet (ci := 3) C in_X3 hw 13 rfl rfl 4 (by decide) (C.2.2.2.2.2.2.1 _ q1_129) rfl rfl (dq dt_X8_later 43 rfl) ?_
            refine lv_iload_n hx hb (dq dt_X8_later 44 rfl) rfl (lv_at hl 3 rfl) ?_
            obtain ⟨v21, ev21, hi22, hF⟩ := rd_ hF
            refine kIald C hw 15 1 rfl rfl hi22 ev21 (dq dt_X8_later 45 rfl) ?_
            cases hF
            exact kRetI hQ C hw (dq dt_X8_later 46 rfl)
          replace hF := if_f c20 hF
          refine lv_lookup (tgt := 112) (off := 43) hx hb (dq dt_X8_later 36 rfl) (by decide) (by show Op.lookupswitch.offset [(0, 27), (1, 35)] 43 (p3).toInt = 43; rw [lv_osw (a := 0) c17 (by decide), lv_osw (a := 1) c20 (by decide)]; rfl) (by decide) ?_
          refine lv_aload hx hb (dq dt_X8_later 47 rfl) (lv_at hl 0 rfl) ?_
          refine lv_iload_n hx hb (dq dt_X8_later 48 rfl) rfl (lv_at hl 3 rfl) ?_
          obtain ⟨v23, hr24, hF⟩ := zc1_ hF
          refine kCallVR C hw (A_X3_heardBy l D cB cI cJ cZ ad a_t a_t_tides a_t_seepYard a_t_seepSize a_t_growth a_t_level a_t_kind a_t_childYard a_t_pace a_t_ear a_h a_h_size a_h_yard a_h_oranges t_yards t_seeps t_children t_seepYard t_kind t_ear g10 g11 g12 g14 p1 v23 hr24) (cwV 1 C.2.2.2.2.2.2.1 (w0_V0 q3_45 q3_72 q3_43 q3_44 q1_4) rfl rfl rfl kd_X3_heardBy ⟨Nat.le_of_ble_eq_true rfl, Nat.le_of_ble_eq_true rfl⟩) [1, 3, 6, 8, 13, 15] rfl rfl 13 3 rfl rfl hl.1 rfl rfl rfl (Nat.le_of_ble_eq_true rfl) ⟨Nat.le_of_ble_eq_true rfl, Nat.le_of_ble_eq_true rfl⟩ (dq dt_X8_later 49 rfl) (fun H locs hw => ?_)
          cases hF
          exact kRetI hQ C hw (dq dt_X8_later 50 rfl)
        · replace hF := if_t c9 hF
          refine lv_bipush (v := (-3 : Int32)) hx hb (dq dt_X8_later 28 rfl) (by decide) ?_
          cases hF
          exact kRetI hQ C hw (dq dt_X8_later 29 rfl)
      · replace hF := if_t c6 hF
        refine lv_bipush (v := (-2 : Int32)) hx hb (dq dt_X8_later 21 rfl) (by decide) ?_
        cases hF
        exact kRetI hQ C hw (dq dt_X8_later 22 rfl)
    refine lv_if_ne (tgt := 27) hx hb (dq dt_X8_later 8 rfl) (by decide) (fun c25 => ?_) (fun c25 => ?_)
    · replace hF := if_f c25 hF
      refine lv_aload_n hx hb (dq dt_X8_later 14 rfl) rfl (lv_at hl 0 rfl) ?_
      refine kGet (ci := 8) C in_X8 hw 0 rfl rfl 1 (by decide) (C.2.2.2.2.2.2.1 _ q2_23) rfl rfl (dq dt_X8_later 15 rfl) ?_
      refine lv_iload_n hx hb (dq dt_X8_later 16 rfl) rfl (lv_at hl 1 rfl) ?_
      obtain ⟨v26, hr27, hF⟩ := zc1_ hF
      refine kCallVR C hw (A_X7_hasChild l D cB cI cJ cZ ad a_t a_t_tides a_t_seepYard a_t_seepSize a_t_growth a_t_level a_t_kind a_t_childYard a_t_pace a_t_ear t_yards t_seeps t_children p1 v26 hr27) (cwV 1 C.2.2.2.2.2.2.1 (w0_V0 q3_26 q3_23 q3_24 q3_25 q1_3) rfl rfl rfl kd_X7_hasChild ⟨Nat.le_of_ble_eq_true rfl, Nat.le_of_ble_eq_true rfl⟩) [1] rfl rfl 1 7 rfl rfl hl.1 rfl rfl rfl (Nat.le_of_ble_eq_true rfl) ⟨Nat.le_of_ble_eq_true rfl, Nat.le_of_ble_eq_true rfl⟩ (dq dt_X8_later 17 rfl) (fun H locs hw => ?_)
      exact J5 v26 hF _ _ _ hw (lv_sub hl [0, 1, 2, 3] rfl)
    · replace hF := if_t c25 hF
      refine lv_aload_n hx hb (dq dt_X8_later 9 rfl) rfl (lv_at hl 0 rfl) ?_
      refine kGet (ci := 8) C in_X8 hw 0 rfl rfl 1 (by decide) (C.2.2.2.2.2.2.1 _ q2_23) rfl rfl (dq dt_X8_later 10 rfl) ?_
      refine lv_iload_n hx hb (dq dt_X8_later 11 rfl) rfl (lv_at hl 1 rfl) ?_
      obtain ⟨v28, hr29, hF⟩ := zc1_ hF
      refine kCallVR C hw (A_X7_hasSeep l D cB cI cJ cZ ad a_t a_t_tides a_t_seepYard a_t_seepSize a_t_growth a_t_level a_t_kind a_t_childYard a_t_pace a_t_ear t_yards t_seeps t_children p1 v28 hr29) (cwV 1 C.2.2.2.2.2.2.1 (w0_V0 q3_11 q3_8 q3_9 q3_10 q1_3) rfl rfl rfl kd_X7_hasSeep ⟨Nat.le_of_ble_eq_true rfl, Nat.le_of_ble_eq_true rfl⟩) [1] rfl rfl 1 7 rfl rfl hl.1 rfl rfl rfl (Nat.le_of_ble_eq_true rfl) ⟨Nat.le_of_ble_eq_true rfl, Nat.le_of_ble_eq_true rfl⟩ (dq dt_X8_later 12 rfl) (fun H locs hw => ?_)
      refine lv_goto (tgt := 35) hx hb (dq dt_X8_later 13 rfl) (by decide) ?_
      exact J5 v28 hF _ _ _ hw (lv_sub hl [0, 1, 2, 3] rfl)
  · replace hF := if_t c3 hF
    refine lv_bipush (v := (-3 : Int32)) hx hb (dq dt_X8_later 5 rfl) (by decide) ?_
    cases hF
    exact kRetI hQ C hw (dq dt_X8_later 6 rfl)
def F_X1_hoursToBreak (t_tides : Nat → Int32) (t_growth : Nat → Int32) (t_level : Nat → Int32) (n_hours : Int32) (n_size : Nat → Int32) (p1 : Int32) : Option (Int32) :=
  rd 6 n_size p1 (fun v1 => zl2 (fun x3 x4 ag5 => if (999 : Int32) < x4 then (some (-1 : Int32)) else (if x3 < (100 : Int32) then (bd (n_hours + x4) (fun v8 => zc1 (F_X7_grown t_tides t_growth t_level p1 x3 v8) (fun v9 => bd (x4 + (1 : Int32)) (fun v11 => ag5 v9 v11)))) else (some x4))) FU v1 (0 : Int32))
abbrev rm_X1_hoursToBreak : Room := { frames := 3, cells := 0, slots := 0, locals := 66 }
theorem kd_X1_hoursToBreak : yX1_hoursToBreak.cls = RX1 ∧ yX1_hoursToBreak.cls ≠ "java/lang/invoke/MethodHandle" ∧ yX1_hoursToBreak.cls ≠ "java/lang/invoke/VarHandle" ∧ (parseMethodDescriptor yX1_hoursToBreak.desc).map (fun d => d.parameters.length) = some 1 := by decide +kernel
set_option maxRecDepth 100000 in
set_option maxHeartbeats 4000000 in
theorem A_X1_hoursToBreak (l : Launch) (D : va_G) (cB cI cJ cZ : ClassId) (ad : (Nat → Nat) × (Nat → Nat)) (a_t a_t_tides a_t_seepYard a_t_seepSize a_t_growth a_t_level a_t_kind a_t_childYard a_t_pace a_t_ear a_n a_n_size a_n_yard a_n_oranges a_f a_h a_f_breakHour a_f_heardInTime : Nat) (t_yards : Int32) (t_seeps : Int32) (t_children : Int32) (t_tides : Nat → Int32) (t_growth : Nat → Int32) (t_level : Nat → Int32) (n_hours : Int32) (n_filled : Int32) (n_toLesser : Int32) (n_size : Nat → Int32) (p1 : Int32) (r : Int32) (hF : F_X1_hoursToBreak t_tides t_growth t_level n_hours n_size p1 = some r) : kM l yX1_hoursToBreak (Cond.code yX1_hoursToBreak cX1_hoursToBreak 4 (some .int) :: W0) rm_X1_hoursToBreak D (kT cB cI cJ cZ) ad [.ref a_f, .int p1] [(a_t, .inr (7, [.int t_yards, .ref a_t_tides, .int t_seeps, .ref a_t_seepYard, .ref a_t_seepSize, .ref a_t_growth, .ref a_t_level, .int t_children, .ref a_t_kind, .ref a_t_childYard, .ref a_t_pace, .ref a_t_ear])), (a_t_tides, .inl (cI, 12, .inl t_tides)), (a_t_growth, .inl (cI, 6, .inl t_growth)), (a_t_level, .inl (cI, 6, .inl t_level)), (a_n, .inr (3, [.ref a_t, .int n_hours, .int n_filled, .ref a_n_size, .ref a_n_yard, .int n_toLesser, .ref a_n_oranges])), (a_n_size, .inl (cI, 6, .inl n_size)), (a_f, .inr (1, [.ref a_t, .ref a_n, .ref a_h, .ref a_f_breakHour, .ref a_f_heardInTime]))] (some (.int r)) [(a_t, .inr (7, [.int t_yards, .ref a_t_tides, .int t_seeps, .ref a_t_seepYard, .ref a_t_seepSize, .ref a_t_growth, .ref a_t_level, .int t_children, .ref a_t_kind, .ref a_t_childYard, .ref a_t_pace, .ref a_t_ear])), (a_t_tides, .inl (cI, 12, .inl t_tides)), (a_t_growth, .inl (cI, 6, .inl t_growth)), (a_t_level, .inl (cI, 6, .inl t_level)), (a_n, .inr (3, [.ref a_t, .int n_hours, .int n_filled, .ref a_n_size, .ref a_n_yard, .int n_toLesser, .ref a_n_oranges])), (a_n_size, .inl (cI, 6, .inl n_size)), (a_f, .inr (1, [.ref a_t, .ref a_n, .ref a_h, .ref a_f_breakHour, .ref a_f_heardInTime]))] := by
  unfold F_X1_hoursToBreak at hF
  refine kStart (lv := [(0, .ref a_f), (1, .int p1)]) (own := "DikeWatch$Foretold") (plainFor_of_name (by decide)) rfl (Nat.le_of_ble_eq_true rfl) rfl ?_
  intro p e s m args below meth c A Q ls hQ C hx hb hw hl
  refine lv_aload_n hx hb (dq dt_X1_hoursToBreak 0 rfl) rfl (lv_at hl 0 rfl) ?_
  refine kGet (ci := 1) C in_X1 hw 6 rfl rfl 1 (by decide) (C.2.2.2.2.2.2.1 _ q1_155) rfl rfl (dq dt_X1_hoursToBreak 1 rfl) ?_
  refine kGet (ci := 3) C in_X3 hw 4 rfl rfl 3 (by decide) (C.2.2.2.2.2.2.1 _ q1_126) rfl rfl (dq dt_X1_hoursToBreak 2 rfl) ?_
  refine lv_iload_n hx hb (dq dt_X1_hoursToBreak 3 rfl) rfl (lv_at hl 1 rfl) ?_
  obtain ⟨v1, ev1, hi2, hF⟩ := rd_ hF
  refine kIald C hw 5 1 rfl rfl hi2 ev1 (dq dt_X1_hoursToBreak 4 rfl) ?_
  refine lv_istore_n (lv' := [(2, .int v1), (0, .ref a_f), (1, .int p1)]) hx hb (dq dt_X1_hoursToBreak 5 rfl) rfl hl (by decide) rfl (fun ls hl => ?_)
  refine lv_iconst (v := (0 : Int32)) hx hb (dq dt_X1_hoursToBreak 6 rfl) (by decide) ?_
  refine lv_istore_n (lv' := [(3, .int (0 : Int32)), (2, .int v1), (0, .ref a_f), (1, .int p1)]) hx hb (dq dt_X1_hoursToBreak 7 rfl) rfl hl (by decide) rfl (fun ls hl => ?_)
  obtain ⟨K5, hK05, hK5, hF⟩ := zl2_ hF
  have L5 : ∀ (n : Nat) (x3 : Int32) (x4 : Int32), K5 n x3 x4 = some r → ∀ (H : Heap) (locs : List Loc) (ls : Array Slot), kW D A s.heap [(a_t, .inr (7, [.int t_yards, .ref a_t_tides, .int t_seeps, .ref a_t_seepYard, .ref a_t_seepSize, .ref a_t_growth, .ref a_t_level, .int t_children, .ref a_t_kind, .ref a_t_childYard, .ref a_t_pace, .ref a_t_ear])), (a_t_tides, .inl (cI, 12, .inl t_tides)), (a_t_growth, .inl (cI, 6, .inl t_growth)), (a_t_level, .inl (cI, 6, .inl t_level)), (a_n, .inr (3, [.ref a_t, .int n_hours, .int n_filled, .ref a_n_size, .ref a_n_yard, .int n_toLesser, .ref a_n_oranges])), (a_n_size, .inl (cI, 6, .inl n_size)), (a_f, .inr (1, [.ref a_t, .ref a_n, .ref a_h, .ref a_f_breakHour, .ref a_f_heardInTime]))] H locs → lv_has ls 4 [(0, .ref a_f), (1, .int p1), (2, .int x3), (3, .int x4)] → W p l e rm_X1_hoursToBreak s m args below meth c H locs 0 0 Q (F0 m 12 ls []) := by
    intro n
    induction n with
    | zero => intro x3 x4 hF; exact (lp_no (hK05 x3 x4) hF).elim
    | succ n ih5 =>
      intro x3 x4 hF H locs ls hw hl
      replace hF := hK5 n x3 x4 hF
      refine lv_iload_n hx hb (dq dt_X1_hoursToBreak 8 rfl) rfl (lv_at hl 3 rfl) ?_
      refine lv_sipush (v := (999 : Int32)) hx hb (dq dt_X1_hoursToBreak 9 rfl) (by decide) ?_
      refine lv_icmp_gt (tgt := 52) hx hb (dq dt_X1_hoursToBreak 10 rfl) (by decide) (fun c6 => ?_) (fun c6 => ?_)
      · replace hF := if_t c6 hF
        refine lv_iconst (v := (-1 : Int32)) hx hb (dq dt_X1_hoursToBreak 29 rfl) (by decide) ?_
        cases hF
        exact kRetI hQ C hw (dq dt_X1_hoursToBreak 30 rfl)
      · replace hF := if_f c6 hF
        refine lv_iload_n hx hb (dq dt_X1_hoursToBreak 11 rfl) rfl (lv_at hl 2 rfl) ?_
        refine lv_bipush (v := (100 : Int32)) hx hb (dq dt_X1_hoursToBreak 12 rfl) (by decide) ?_
        refine lv_icmp_lt (tgt := 27) hx hb (dq dt_X1_hoursToBreak 13 rfl) (by decide) (fun c7 => ?_) (fun c7 => ?_)
        · replace hF := if_t c7 hF
          refine lv_aload_n hx hb (dq dt_X1_hoursToBreak 16 rfl) rfl (lv_at hl 0 rfl) ?_
          refine kGet (ci := 1) C in_X1 hw 6 rfl rfl 0 (by decide) (C.2.2.2.2.2.2.1 _ q1_154) rfl rfl (dq dt_X1_hoursToBreak 17 rfl) ?_
          refine lv_iload_n hx hb (dq dt_X1_hoursToBreak 18 rfl) rfl (lv_at hl 1 rfl) ?_
          refine lv_iload_n hx hb (dq dt_X1_hoursToBreak 19 rfl) rfl (lv_at hl 2 rfl) ?_
          refine lv_aload_n hx hb (dq dt_X1_hoursToBreak 20 rfl) rfl (lv_at hl 0 rfl) ?_
          refine kGet (ci := 1) C in_X1 hw 6 rfl rfl 1 (by decide) (C.2.2.2.2.2.2.1 _ q1_155) rfl rfl (dq dt_X1_hoursToBreak 21 rfl) ?_
          refine kGet (ci := 3) C in_X3 hw 4 rfl rfl 1 (by decide) (C.2.2.2.2.2.2.1 _ q1_121) rfl rfl (dq dt_X1_hoursToBreak 22 rfl) ?_
          refine lv_iload_n hx hb (dq dt_X1_hoursToBreak 23 rfl) rfl (lv_at hl 3 rfl) ?_
          refine lv_iadd hx hb (dq dt_X1_hoursToBreak 24 rfl) ?_
          obtain ⟨v8, ev8, hF⟩ := bd_ hF
          refine kNmI ev8 ?_
          obtain ⟨v9, hr10, hF⟩ := zc1_ hF
          refine kCallVR C hw (A_X7_grown l D cB cI cJ cZ ad a_t a_t_tides a_t_seepYard a_t_seepSize a_t_growth a_t_level a_t_kind a_t_childYard a_t_pace a_t_ear t_yards t_seeps t_children t_tides t_growth t_level p1 x3 v8 v9 hr10) (cwV 3 C.2.2.2.2.2.2.1 (w0_V0 q3_88 q3_158 q3_86 q3_87 q1_3) rfl rfl rfl kd_X7_grown ⟨Nat.le_of_ble_eq_true rfl, Nat.le_of_ble_eq_true rfl⟩) [0, 1, 2, 3] rfl rfl 0 7 rfl rfl hl.1 rfl rfl rfl (Nat.le_of_ble_eq_true rfl) ⟨Nat.le_of_ble_eq_true rfl, Nat.le_of_ble_eq_true rfl⟩ (dq dt_X1_hoursToBreak 25 rfl) (fun H locs hw => ?_)
          refine lv_istore_n (lv' := [(2, .int v9), (0, .ref a_f), (1, .int p1), (3, .int x4)]) hx hb (dq dt_X1_hoursToBreak 26 rfl) rfl hl (by decide) rfl (fun ls hl => ?_)
          obtain ⟨v11, ev11, hF⟩ := bd_ hF
          refine lv_iinc (v := v11) (lv' := [(3, .int v11), (2, .int v9), (0, .ref a_f), (1, .int p1)]) hx hb (dq dt_X1_hoursToBreak 27 rfl) hl (k := 3) rfl ev11.symm (by decide) rfl (fun ls hl => ?_)
          refine lv_goto (tgt := 12) hx hb (dq dt_X1_hoursToBreak 28 rfl) (by decide) ?_
          exact ih5 v9 v11 hF _ _ _ hw (lv_sub hl [2, 3, 1, 0] rfl)
        · replace hF := if_f c7 hF
          refine lv_iload_n hx hb (dq dt_X1_hoursToBreak 14 rfl) rfl (lv_at hl 3 rfl) ?_
          cases hF
          exact kRetI hQ C hw (dq dt_X1_hoursToBreak 15 rfl)
  exact L5 _ v1 (0 : Int32) hF _ _ _ hw (lv_sub hl [2, 3, 1, 0] rfl)
def F_X8_breaks (t_seeps : Int32) (t_tides : Nat → Int32) (t_growth : Nat → Int32) (t_level : Nat → Int32) (n_hours : Int32) (n_filled : Int32) (n_size : Nat → Int32) (p1 : Int32) : Option (Int32) :=
  zc1 (F_X7_hasSeep t_seeps p1) (fun v1 => if v1 = 0 then (some (-2 : Int32)) else (zc1 (F_X3_isFilled n_filled p1) (fun v4 => if v4 = 0 then (zc1 (F_X1_hoursToBreak t_tides t_growth t_level n_hours n_size p1) (fun v7 => some v7)) else (some (-4 : Int32)))))
abbrev rm_X8_breaks : Room := { frames := 4, cells := 0, slots := 0, locals := 89 }
theorem kd_X8_breaks : yX8_breaks.cls = RX8 ∧ yX8_breaks.cls ≠ "java/lang/invoke/MethodHandle" ∧ yX8_breaks.cls ≠ "java/lang/invoke/VarHandle" ∧ (parseMethodDescriptor yX8_breaks.desc).map (fun d => d.parameters.length) = some 1 := by decide +kernel
set_option maxRecDepth 100000 in
set_option maxHeartbeats 4000000 in
theorem A_X8_breaks (l : Launch) (D : va_G) (cB cI cJ cZ : ClassId) (ad : (Nat → Nat) × (Nat → Nat)) (a_d a_x a_t a_g a_r a_n a_k a_j a_f a_e a_z a_c a_t_tides a_t_seepYard a_t_seepSize a_t_growth a_t_level a_t_kind a_t_childYard a_t_pace a_t_ear a_n_size a_n_yard a_n_oranges a_h a_f_breakHour a_f_heardInTime : Nat) (d_keptBits : Int32) (t_yards : Int32) (t_seeps : Int32) (t_children : Int32) (t_tides : Nat → Int32) (t_growth : Nat → Int32) (t_level : Nat → Int32) (n_hours : Int32) (n_filled : Int32) (n_toLesser : Int32) (n_size : Nat → Int32) (p1 : Int32) (r : Int32) (hF : F_X8_breaks t_seeps t_tides t_growth t_level n_hours n_filled n_size p1 = some r) : kM l yX8_breaks (Cond.code yX8_breaks cX8_breaks 2 (some .int) :: W0) rm_X8_breaks D (kT cB cI cJ cZ) ad [.ref a_d, .int p1] [(a_d, .inr (8, [.ref a_x, .ref a_t, .ref a_g, .ref a_r, .ref a_n, .ref a_k, .ref a_j, .int d_keptBits, .ref a_f, .ref a_e, .ref a_z, .ref a_c])), (a_t, .inr (7, [.int t_yards, .ref a_t_tides, .int t_seeps, .ref a_t_seepYard, .ref a_t_seepSize, .ref a_t_growth, .ref a_t_level, .int t_children, .ref a_t_kind, .ref a_t_childYard, .ref a_t_pace, .ref a_t_ear])), (a_t_tides, .inl (cI, 12, .inl t_tides)), (a_t_growth, .inl (cI, 6, .inl t_growth)), (a_t_level, .inl (cI, 6, .inl t_level)), (a_n, .inr (3, [.ref a_t, .int n_hours, .int n_filled, .ref a_n_size, .ref a_n_yard, .int n_toLesser, .ref a_n_oranges])), (a_n_size, .inl (cI, 6, .inl n_size)), (a_f, .inr (1, [.ref a_t, .ref a_n, .ref a_h, .ref a_f_breakHour, .ref a_f_heardInTime]))] (some (.int r)) [(a_d, .inr (8, [.ref a_x, .ref a_t, .ref a_g, .ref a_r, .ref a_n, .ref a_k, .ref a_j, .int d_keptBits, .ref a_f, .ref a_e, .ref a_z, .ref a_c])), (a_t, .inr (7, [.int t_yards, .ref a_t_tides, .int t_seeps, .ref a_t_seepYard, .ref a_t_seepSize, .ref a_t_growth, .ref a_t_level, .int t_children, .ref a_t_kind, .ref a_t_childYard, .ref a_t_pace, .ref a_t_ear])), (a_t_tides, .inl (cI, 12, .inl t_tides)), (a_t_growth, .inl (cI, 6, .inl t_growth)), (a_t_level, .inl (cI, 6, .inl t_level)), (a_n, .inr (3, [.ref a_t, .int n_hours, .int n_filled, .ref a_n_size, .ref a_n_yard, .int n_toLesser, .ref a_n_oranges])), (a_n_size, .inl (cI, 6, .inl n_size)), (a_f, .inr (1, [.ref a_t, .ref a_n, .ref a_h, .ref a_f_breakHour, .ref a_f_heardInTime]))] := by
  unfold F_X8_breaks at hF
  refine kStart (lv := [(0, .ref a_d), (1, .int p1)]) (own := "DikeWatch") (plainFor_of_name (by decide)) rfl (Nat.le_of_ble_eq_true rfl) rfl ?_
  intro p e s m args below meth c A Q ls hQ C hx hb hw hl
  refine lv_aload_n hx hb (dq dt_X8_breaks 0 rfl) rfl (lv_at hl 0 rfl) ?_
  refine kGet (ci := 8) C in_X8 hw 0 rfl rfl 1 (by decide) (C.2.2.2.2.2.2.1 _ q2_23) rfl rfl (dq dt_X8_breaks 1 rfl) ?_
  refine lv_iload_n hx hb (dq dt_X8_breaks 2 rfl) rfl (lv_at hl 1 rfl) ?_
  obtain ⟨v1, hr2, hF⟩ := zc1_ hF
  refine kCallVR C hw (A_X7_hasSeep l D cB cI cJ cZ ad a_t a_t_tides a_t_seepYard a_t_seepSize a_t_growth a_t_level a_t_kind a_t_childYard a_t_pace a_t_ear t_yards t_seeps t_children p1 v1 hr2) (cwV 1 C.2.2.2.2.2.2.1 (w0_V0 q3_11 q3_8 q3_9 q3_10 q1_3) rfl rfl rfl kd_X7_hasSeep ⟨Nat.le_of_ble_eq_true rfl, Nat.le_of_ble_eq_true rfl⟩) [1] rfl rfl 1 7 rfl rfl hl.1 rfl rfl rfl (Nat.le_of_ble_eq_true rfl) ⟨Nat.le_of_ble_eq_true rfl, Nat.le_of_ble_eq_true rfl⟩ (dq dt_X8_breaks 3 rfl) (fun H locs hw => ?_)
  refine lv_if_ne (tgt := 14) hx hb (dq dt_X8_breaks 4 rfl) (by decide) (fun c3 => ?_) (fun c3 => ?_)
  · replace hF := if_f c3 hF
    refine lv_aload_n hx hb (dq dt_X8_breaks 7 rfl) rfl (lv_at hl 0 rfl) ?_
    refine kGet (ci := 8) C in_X8 hw 0 rfl rfl 4 (by decide) (C.2.2.2.2.2.2.1 _ q2_26) rfl rfl (dq dt_X8_breaks 8 rfl) ?_
    refine lv_iload_n hx hb (dq dt_X8_breaks 9 rfl) rfl (lv_at hl 1 rfl) ?_
    obtain ⟨v4, hr5, hF⟩ := zc1_ hF
    refine kCallVR C hw (A_X3_isFilled l D cB cI cJ cZ ad a_n a_t a_n_size a_n_yard a_n_oranges n_hours n_filled n_toLesser p1 v4 hr5) (cwV 1 C.2.2.2.2.2.2.1 (w0_V0 q3_15 q3_12 q3_13 q3_14 q1_4) rfl rfl rfl kd_X3_isFilled ⟨Nat.le_of_ble_eq_true rfl, Nat.le_of_ble_eq_true rfl⟩) [5] rfl rfl 5 3 rfl rfl hl.1 rfl rfl rfl (Nat.le_of_ble_eq_true rfl) ⟨Nat.le_of_ble_eq_true rfl, Nat.le_of_ble_eq_true rfl⟩ (dq dt_X8_breaks 10 rfl) (fun H locs hw => ?_)
    refine lv_if_eq (tgt := 30) hx hb (dq dt_X8_breaks 11 rfl) (by decide) (fun c6 => ?_) (fun c6 => ?_)
    · replace hF := if_t c6 hF
      refine lv_aload_n hx hb (dq dt_X8_breaks 14 rfl) rfl (lv_at hl 0 rfl) ?_
      refine kGet (ci := 8) C in_X8 hw 0 rfl rfl 8 (by decide) (C.2.2.2.2.2.2.1 _ q2_30) rfl rfl (dq dt_X8_breaks 15 rfl) ?_
      refine lv_iload_n hx hb (dq dt_X8_breaks 16 rfl) rfl (lv_at hl 1 rfl) ?_
      obtain ⟨v7, hr8, hF⟩ := zc1_ hF
      refine kCallVR C hw (A_X1_hoursToBreak l D cB cI cJ cZ ad a_t a_t_tides a_t_seepYard a_t_seepSize a_t_growth a_t_level a_t_kind a_t_childYard a_t_pace a_t_ear a_n a_n_size a_n_yard a_n_oranges a_f a_h a_f_breakHour a_f_heardInTime t_yards t_seeps t_children t_tides t_growth t_level n_hours n_filled n_toLesser n_size p1 v7 hr8) (cwV 1 C.2.2.2.2.2.2.1 (w0_V0 q3_157 q3_154 q3_155 q3_156 q1_5) rfl rfl rfl kd_X1_hoursToBreak ⟨Nat.le_of_ble_eq_true rfl, Nat.le_of_ble_eq_true rfl⟩) [1, 2, 3, 4, 5, 6, 7] rfl rfl 7 1 rfl rfl hl.1 rfl rfl rfl (Nat.le_of_ble_eq_true rfl) ⟨Nat.le_of_ble_eq_true rfl, Nat.le_of_ble_eq_true rfl⟩ (dq dt_X8_breaks 17 rfl) (fun H locs hw => ?_)
      cases hF
      exact kRetI hQ C hw (dq dt_X8_breaks 18 rfl)
    · replace hF := if_f c6 hF
      refine lv_bipush (v := (-4 : Int32)) hx hb (dq dt_X8_breaks 12 rfl) (by decide) ?_
      refine lv_goto (tgt := 38) hx hb (dq dt_X8_breaks 13 rfl) (by decide) ?_
      cases hF
      exact kRetI hQ C hw (dq dt_X8_breaks 18 rfl)
  · replace hF := if_t c3 hF
    refine lv_bipush (v := (-2 : Int32)) hx hb (dq dt_X8_breaks 5 rfl) (by decide) ?_
    cases hF
    exact kRetI hQ C hw (dq dt_X8_breaks 6 rfl)
def F_X8_isSetOf (p1 : Int32) (p2 : Int32) : Option (Int32) :=
  if (p2 >>> (p1 &&& 31)) = 0 then (some (1 : Int32)) else (some (0 : Int32))
abbrev rm_X8_isSetOf : Room := { frames := 0, cells := 0, slots := 0, locals := 0 }
theorem ke_X8_isSetOf : yX8_isSetOf.cls ≠ "java/lang/invoke/MethodHandle" ∧ yX8_isSetOf.cls ≠ "java/lang/invoke/VarHandle" ∧ (parseMethodDescriptor yX8_isSetOf.desc).map (fun d => d.parameters.length) = some 2 := by decide +kernel
set_option maxRecDepth 100000 in
set_option maxHeartbeats 4000000 in
theorem A_X8_isSetOf (l : Launch) (D : va_G) (cB cI cJ cZ : ClassId) (ad : (Nat → Nat) × (Nat → Nat)) (p1 : Int32) (p2 : Int32) (r : Int32) (hF : F_X8_isSetOf p1 p2 = some r) : kM l yX8_isSetOf (Cond.code yX8_isSetOf cX8_isSetOf 2 (some .boolean) :: W0) rm_X8_isSetOf D (kT cB cI cJ cZ) ad [.int p1, .int p2] [] (some (.int r)) [] := by
  unfold F_X8_isSetOf at hF
  refine kStart (lv := [(0, .int p1), (1, .int p2)]) (own := "DikeWatch") (plainFor_of_name (by decide)) rfl (Nat.le_of_ble_eq_true rfl) rfl ?_
  intro p e s m args below meth c A Q ls hQ C hx hb hw hl
  refine lv_iload_n hx hb (dq dt_X8_isSetOf 0 rfl) rfl (lv_at hl 1 rfl) ?_
  refine lv_iload_n hx hb (dq dt_X8_isSetOf 1 rfl) rfl (lv_at hl 0 rfl) ?_
  refine lv_ishr hx hb (dq dt_X8_isSetOf 2 rfl) ?_
  refine lv_if_ne (tgt := 10) hx hb (dq dt_X8_isSetOf 3 rfl) (by decide) (fun c1 => ?_) (fun c1 => ?_)
  · replace hF := if_f c1 hF
    refine lv_iconst (v := (0 : Int32)) hx hb (dq dt_X8_isSetOf 6 rfl) (by decide) ?_
    cases hF
    exact kRetZ hQ C rfl hw (dq dt_X8_isSetOf 7 rfl)
  · replace hF := if_t c1 hF
    refine lv_iconst (v := (1 : Int32)) hx hb (dq dt_X8_isSetOf 4 rfl) (by decide) ?_
    refine lv_goto (tgt := 11) hx hb (dq dt_X8_isSetOf 5 rfl) (by decide) ?_
    cases hF
    exact kRetZ hQ C rfl hw (dq dt_X8_isSetOf 7 rfl)
def F_X7_hasChildren (t_children : Int32) (p1 : Int32) : Option (Int32) :=
  zc1 (F_X8_isSetOf t_children p1) (fun v1 => ckZ v1 (some v1))
abbrev rm_X7_hasChildren : Room := { frames := 1, cells := 0, slots := 0, locals := 21 }
theorem kd_X7_hasChildren : yX7_hasChildren.cls = RX7 ∧ yX7_hasChildren.cls ≠ "java/lang/invoke/MethodHandle" ∧ yX7_hasChildren.cls ≠ "java/lang/invoke/VarHandle" ∧ (parseMethodDescriptor yX7_hasChildren.desc).map (fun d => d.parameters.length) = some 1 := by decide +kernel
set_option maxRecDepth 100000 in
set_option maxHeartbeats 4000000 in
theorem A_X7_hasChildren (l : Launch) (D : va_G) (cB cI cJ cZ : ClassId) (ad : (Nat → Nat) × (Nat → Nat)) (a_t a_t_tides a_t_seepYard a_t_seepSize a_t_growth a_t_level a_t_kind a_t_childYard a_t_pace a_t_ear : Nat) (t_yards : Int32) (t_seeps : Int32) (t_children : Int32) (p1 : Int32) (r : Int32) (hF : F_X7_hasChildren t_children p1 = some r) : kM l yX7_hasChildren (Cond.code yX7_hasChildren cX7_hasChildren 2 (some .boolean) :: W0) rm_X7_hasChildren D (kT cB cI cJ cZ) ad [.ref a_t, .int p1] [(a_t, .inr (7, [.int t_yards, .ref a_t_tides, .int t_seeps, .ref a_t_seepYard, .ref a_t_seepSize, .ref a_t_growth, .ref a_t_level, .int t_children, .ref a_t_kind, .ref a_t_childYard, .ref a_t_pace, .ref a_t_ear]))] (some (.int r)) [(a_t, .inr (7, [.int t_yards, .ref a_t_tides, .int t_seeps, .ref a_t_seepYard, .ref a_t_seepSize, .ref a_t_growth, .ref a_t_level, .int t_children, .ref a_t_kind, .ref a_t_childYard, .ref a_t_pace, .ref a_t_ear]))] := by
  unfold F_X7_hasChildren at hF
  refine kStart (lv := [(0, .ref a_t), (1, .int p1)]) (own := "DikeWatch$Told") (plainFor_of_name (by decide)) rfl (Nat.le_of_ble_eq_true rfl) rfl ?_
  intro p e s m args below meth c A Q ls hQ C hx hb hw hl
  refine lv_aload_n hx hb (dq dt_X7_hasChildren 0 rfl) rfl (lv_at hl 0 rfl) ?_
  refine kGet (ci := 7) C in_X7 hw 0 rfl rfl 7 (by decide) (C.2.2.2.2.2.2.1 _ q1_72) rfl rfl (dq dt_X7_hasChildren 1 rfl) ?_
  refine lv_iload_n hx hb (dq dt_X7_hasChildren 2 rfl) rfl (lv_at hl 1 rfl) ?_
  obtain ⟨v1, hr2, hF⟩ := zc1_ hF
  refine kCallSN C hw (A_X8_isSetOf l D cB cI cJ cZ ad t_children p1 v1 hr2) ⟨va_cnB 2 C.2.2.2.2.2.2.1 (w0_all0 q3_169) rfl rfl rfl (C.2.2.2.2.2.2.2.2.1.1 _ (List.mem_of_getElem? (i := 8) rfl)) (C.2.2.2.2.2.2.1 _ q1_1) ke_X8_isSetOf ⟨Nat.le_of_ble_eq_true rfl, Nat.le_of_ble_eq_true rfl⟩, (C.2.2.2.2.2.2.1 _ q3_168), trivial⟩ hl.1 rfl rfl rfl (Nat.le_of_ble_eq_true rfl) ⟨Nat.le_of_ble_eq_true rfl, Nat.le_of_ble_eq_true rfl⟩ (dq dt_X7_hasChildren 3 rfl) (fun H locs hw => ?_)
  obtain ⟨hn, hF⟩ := ckZ_ hF
  cases hF
  exact kRetZ hQ C hn hw (dq dt_X7_hasChildren 4 rfl)
def F_X1_findBreaking (t_seeps : Int32) (t_tides : Nat → Int32) (t_growth : Nat → Int32) (t_level : Nat → Int32) (n_hours : Int32) (n_filled : Int32) (n_size : Nat → Int32) (f_breakHour : Nat → Int32) : Option (Int32 × (Nat → Int32)) :=
  zl3 (fun x1 x2 h3 ag4 => if t_seeps ≤ x2 then (some (x1, h3)) else (zc1 (F_X3_isFilled n_filled x2) (fun v6 => zj1 (fun y8 => wr 6 x2 (upd h3 (x2).toNatClampNeg y8) (fun g10 => rd 6 g10 x2 (fun v12 => zj1 (fun y14 => bd (x1 ||| y14) (fun v16 => bd (x2 + (1 : Int32)) (fun v17 => ag4 v16 v17 g10))) (fun K15 => if v12 ≤ 0 then (K15 (0 : Int32)) else (K15 ((1 : Int32) <<< (x2 &&& 31))))))) (fun K9 => if v6 = 0 then (zc1 (F_X1_hoursToBreak t_tides t_growth t_level n_hours n_size x2) (fun v20 => K9 v20)) else (K9 (-1 : Int32)))))) FU (0 : Int32) (0 : Int32) f_breakHour
abbrev rm_X1_findBreaking : Room := { frames := 4, cells := 0, slots := 0, locals := 89 }
theorem kd_X1_findBreaking : yX1_findBreaking.cls = RX1 ∧ yX1_findBreaking.cls ≠ "java/lang/invoke/MethodHandle" ∧ yX1_findBreaking.cls ≠ "java/lang/invoke/VarHandle" ∧ (parseMethodDescriptor yX1_findBreaking.desc).map (fun d => d.parameters.length) = some 0 := by decide +kernel
set_option maxRecDepth 100000 in
set_option maxHeartbeats 4000000 in
theorem A_X1_findBreaking (l : Launch) (D : va_G) (cB cI cJ cZ : ClassId) (ad : (Nat → Nat) × (Nat → Nat)) (a_t a_t_tides a_t_seepYard a_t_seepSize a_t_growth a_t_level a_t_kind a_t_childYard a_t_pace a_t_ear a_n a_n_size a_n_yard a_n_oranges a_f a_h a_f_breakHour a_f_heardInTime : Nat) (t_yards : Int32) (t_seeps : Int32) (t_children : Int32) (t_tides : Nat → Int32) (t_growth : Nat → Int32) (t_level : Nat → Int32) (n_hours : Int32) (n_filled : Int32) (n_toLesser : Int32) (n_size : Nat → Int32) (f_breakHour : Nat → Int32) (r : Int32) (f_breakHour' : Nat → Int32) (hF : F_X1_findBreaking t_seeps t_tides t_growth t_level n_hours n_filled n_size f_breakHour = some (r, f_breakHour')) : kM l yX1_findBreaking (Cond.code yX1_findBreaking cX1_findBreaking 3 (some .int) :: W0) rm_X1_findBreaking D (kT cB cI cJ cZ) ad [.ref a_f] [(a_t, .inr (7, [.int t_yards, .ref a_t_tides, .int t_seeps, .ref a_t_seepYard, .ref a_t_seepSize, .ref a_t_growth, .ref a_t_level, .int t_children, .ref a_t_kind, .ref a_t_childYard, .ref a_t_pace, .ref a_t_ear])), (a_t_tides, .inl (cI, 12, .inl t_tides)), (a_t_growth, .inl (cI, 6, .inl t_growth)), (a_t_level, .inl (cI, 6, .inl t_level)), (a_n, .inr (3, [.ref a_t, .int n_hours, .int n_filled, .ref a_n_size, .ref a_n_yard, .int n_toLesser, .ref a_n_oranges])), (a_n_size, .inl (cI, 6, .inl n_size)), (a_f, .inr (1, [.ref a_t, .ref a_n, .ref a_h, .ref a_f_breakHour, .ref a_f_heardInTime])), (a_f_breakHour, .inl (cI, 6, .inl f_breakHour))] (some (.int r)) [(a_t, .inr (7, [.int t_yards, .ref a_t_tides, .int t_seeps, .ref a_t_seepYard, .ref a_t_seepSize, .ref a_t_growth, .ref a_t_level, .int t_children, .ref a_t_kind, .ref a_t_childYard, .ref a_t_pace, .ref a_t_ear])), (a_t_tides, .inl (cI, 12, .inl t_tides)), (a_t_growth, .inl (cI, 6, .inl t_growth)), (a_t_level, .inl (cI, 6, .inl t_level)), (a_n, .inr (3, [.ref a_t, .int n_hours, .int n_filled, .ref a_n_size, .ref a_n_yard, .int n_toLesser, .ref a_n_oranges])), (a_n_size, .inl (cI, 6, .inl n_size)), (a_f, .inr (1, [.ref a_t, .ref a_n, .ref a_h, .ref a_f_breakHour, .ref a_f_heardInTime])), (a_f_breakHour, .inl (cI, 6, .inl (f_breakHour')))] := by
  unfold F_X1_findBreaking at hF
  refine kStart (lv := [(0, .ref a_f)]) (own := "DikeWatch$Foretold") (plainFor_of_name (by decide)) rfl (Nat.le_of_ble_eq_true rfl) rfl ?_
  intro p e s m args below meth c A Q ls hQ C hx hb hw hl
  refine lv_iconst (v := (0 : Int32)) hx hb (dq dt_X1_findBreaking 0 rfl) (by decide) ?_
  refine lv_istore_n (lv' := [(1, .int (0 : Int32)), (0, .ref a_f)]) hx hb (dq dt_X1_findBreaking 1 rfl) rfl hl (by decide) rfl (fun ls hl => ?_)
  refine lv_iconst (v := (0 : Int32)) hx hb (dq dt_X1_findBreaking 2 rfl) (by decide) ?_
  refine lv_istore_n (lv' := [(2, .int (0 : Int32)), (1, .int (0 : Int32)), (0, .ref a_f)]) hx hb (dq dt_X1_findBreaking 3 rfl) rfl hl (by decide) rfl (fun ls hl => ?_)
  obtain ⟨K4, hK04, hK4, hF⟩ := zl3_ hF
  have L4 : ∀ (n : Nat) (x1 : Int32) (x2 : Int32) (h3 : Nat → Int32), K4 n x1 x2 h3 = some (r, f_breakHour') → ∀ (H : Heap) (locs : List Loc) (ls : Array Slot), kW D A s.heap [(a_t, .inr (7, [.int t_yards, .ref a_t_tides, .int t_seeps, .ref a_t_seepYard, .ref a_t_seepSize, .ref a_t_growth, .ref a_t_level, .int t_children, .ref a_t_kind, .ref a_t_childYard, .ref a_t_pace, .ref a_t_ear])), (a_t_tides, .inl (cI, 12, .inl t_tides)), (a_t_growth, .inl (cI, 6, .inl t_growth)), (a_t_level, .inl (cI, 6, .inl t_level)), (a_n, .inr (3, [.ref a_t, .int n_hours, .int n_filled, .ref a_n_size, .ref a_n_yard, .int n_toLesser, .ref a_n_oranges])), (a_n_size, .inl (cI, 6, .inl n_size)), (a_f, .inr (1, [.ref a_t, .ref a_n, .ref a_h, .ref a_f_breakHour, .ref a_f_heardInTime])), (a_f_breakHour, .inl (cI, 6, .inl h3))] H locs → lv_has ls 3 [(0, .ref a_f), (1, .int x1), (2, .int x2)] → W p l e rm_X1_findBreaking s m args below meth c H locs 0 0 Q (F0 m 4 ls []) := by
    intro n
    induction n with
    | zero => intro x1 x2 h3 hF; exact (lp_no (hK04 x1 x2 h3) hF).elim
    | succ n ih4 =>
      intro x1 x2 h3 hF H locs ls hw hl
      replace hF := hK4 n x1 x2 h3 hF
      refine lv_iload_n hx hb (dq dt_X1_findBreaking 4 rfl) rfl (lv_at hl 2 rfl) ?_
      refine lv_aload_n hx hb (dq dt_X1_findBreaking 5 rfl) rfl (lv_at hl 0 rfl) ?_
      refine kGet (ci := 1) C in_X1 hw 6 rfl rfl 0 (by decide) (C.2.2.2.2.2.2.1 _ q1_154) rfl rfl (dq dt_X1_findBreaking 6 rfl) ?_
      refine kGet (ci := 7) C in_X7 hw 0 rfl rfl 2 (by decide) (C.2.2.2.2.2.2.1 _ q1_58) rfl rfl (dq dt_X1_findBreaking 7 rfl) ?_
      refine lv_icmp_ge (tgt := 66) hx hb (dq dt_X1_findBreaking 8 rfl) (by decide) (fun c5 => ?_) (fun c5 => ?_)
      · replace hF := if_t c5 hF
        refine lv_iload_n hx hb (dq dt_X1_findBreaking 38 rfl) rfl (lv_at hl 1 rfl) ?_
        cases hF
        exact kRetI hQ C hw (dq dt_X1_findBreaking 39 rfl)
      · replace hF := if_f c5 hF
        refine lv_aload_n hx hb (dq dt_X1_findBreaking 9 rfl) rfl (lv_at hl 0 rfl) ?_
        refine kGet (ci := 1) C in_X1 hw 6 rfl rfl 3 (by decide) (C.2.2.2.2.2.2.1 _ q1_157) rfl rfl (dq dt_X1_findBreaking 10 rfl) ?_
        refine lv_iload_n hx hb (dq dt_X1_findBreaking 11 rfl) rfl (lv_at hl 2 rfl) ?_
        refine lv_aload_n hx hb (dq dt_X1_findBreaking 12 rfl) rfl (lv_at hl 0 rfl) ?_
        refine kGet (ci := 1) C in_X1 hw 6 rfl rfl 1 (by decide) (C.2.2.2.2.2.2.1 _ q1_155) rfl rfl (dq dt_X1_findBreaking 13 rfl) ?_
        refine lv_iload_n hx hb (dq dt_X1_findBreaking 14 rfl) rfl (lv_at hl 2 rfl) ?_
        obtain ⟨v6, hr7, hF⟩ := zc1_ hF
        refine kCallVR C hw (A_X3_isFilled l D cB cI cJ cZ ad a_n a_t a_n_size a_n_yard a_n_oranges n_hours n_filled n_toLesser x2 v6 hr7) (cwV 1 C.2.2.2.2.2.2.1 (w0_V0 q3_15 q3_178 q3_13 q3_14 q1_4) rfl rfl rfl kd_X3_isFilled ⟨Nat.le_of_ble_eq_true rfl, Nat.le_of_ble_eq_true rfl⟩) [4] rfl rfl 4 3 rfl rfl hl.1 rfl rfl rfl (Nat.le_of_ble_eq_true rfl) ⟨Nat.le_of_ble_eq_true rfl, Nat.le_of_ble_eq_true rfl⟩ (dq dt_X1_findBreaking 15 rfl) (fun H locs hw => ?_)
        obtain ⟨K9, hK9, hF⟩ := zj1_ hF
        have J9 : ∀ (y8 : Int32), K9 y8 = some (r, f_breakHour') → ∀ (H : Heap) (locs : List Loc) (ls : Array Slot), kW D A s.heap [(a_t, .inr (7, [.int t_yards, .ref a_t_tides, .int t_seeps, .ref a_t_seepYard, .ref a_t_seepSize, .ref a_t_growth, .ref a_t_level, .int t_children, .ref a_t_kind, .ref a_t_childYard, .ref a_t_pace, .ref a_t_ear])), (a_t_tides, .inl (cI, 12, .inl t_tides)), (a_t_growth, .inl (cI, 6, .inl t_growth)), (a_t_level, .inl (cI, 6, .inl t_level)), (a_n, .inr (3, [.ref a_t, .int n_hours, .int n_filled, .ref a_n_size, .ref a_n_yard, .int n_toLesser, .ref a_n_oranges])), (a_n_size, .inl (cI, 6, .inl n_size)), (a_f, .inr (1, [.ref a_t, .ref a_n, .ref a_h, .ref a_f_breakHour, .ref a_f_heardInTime])), (a_f_breakHour, .inl (cI, 6, .inl h3))] H locs → lv_has ls 3 [(0, .ref a_f), (1, .int x1), (2, .int x2)] → W p l e rm_X1_findBreaking s m args below meth c H locs 0 0 Q (F0 m 40 ls [.int y8, .int x2, .ref a_f_breakHour]) := by
          intro y8 hF H locs ls hw hl
          replace hF := hK9 y8 hF
          obtain ⟨g10, eg10, hi11, hF⟩ := wr_ hF
          refine kIast (ws' := [(a_t, .inr (7, [.int t_yards, .ref a_t_tides, .int t_seeps, .ref a_t_seepYard, .ref a_t_seepSize, .ref a_t_growth, .ref a_t_level, .int t_children, .ref a_t_kind, .ref a_t_childYard, .ref a_t_pace, .ref a_t_ear])), (a_t_tides, .inl (cI, 12, .inl t_tides)), (a_t_growth, .inl (cI, 6, .inl t_growth)), (a_t_level, .inl (cI, 6, .inl t_level)), (a_n, .inr (3, [.ref a_t, .int n_hours, .int n_filled, .ref a_n_size, .ref a_n_yard, .int n_toLesser, .ref a_n_oranges])), (a_n_size, .inl (cI, 6, .inl n_size)), (a_f, .inr (1, [.ref a_t, .ref a_n, .ref a_h, .ref a_f_breakHour, .ref a_f_heardInTime])), (a_f_breakHour, .inl (cI, 6, .inl g10))]) C hw 7 1 rfl rfl hi11 eg10 rfl (dq dt_X1_findBreaking 22 rfl) (fun H locs hw => ?_)
          refine lv_iload_n hx hb (dq dt_X1_findBreaking 23 rfl) rfl (lv_at hl 1 rfl) ?_
          refine lv_aload_n hx hb (dq dt_X1_findBreaking 24 rfl) rfl (lv_at hl 0 rfl) ?_
          refine kGet (ci := 1) C in_X1 hw 6 rfl rfl 3 (by decide) (C.2.2.2.2.2.2.1 _ q1_157) rfl rfl (dq dt_X1_findBreaking 25 rfl) ?_
          refine lv_iload_n hx hb (dq dt_X1_findBreaking 26 rfl) rfl (lv_at hl 2 rfl) ?_
          obtain ⟨v12, ev12, hi13, hF⟩ := rd_ hF
          refine kIald C hw 7 1 rfl rfl hi13 ev12 (dq dt_X1_findBreaking 27 rfl) ?_
          obtain ⟨K15, hK15, hF⟩ := zj1_ hF
          have J15 : ∀ (y14 : Int32), K15 y14 = some (r, f_breakHour') → ∀ (H : Heap) (locs : List Loc) (ls : Array Slot), kW D A s.heap [(a_t, .inr (7, [.int t_yards, .ref a_t_tides, .int t_seeps, .ref a_t_seepYard, .ref a_t_seepSize, .ref a_t_growth, .ref a_t_level, .int t_children, .ref a_t_kind, .ref a_t_childYard, .ref a_t_pace, .ref a_t_ear])), (a_t_tides, .inl (cI, 12, .inl t_tides)), (a_t_growth, .inl (cI, 6, .inl t_growth)), (a_t_level, .inl (cI, 6, .inl t_level)), (a_n, .inr (3, [.ref a_t, .int n_hours, .int n_filled, .ref a_n_size, .ref a_n_yard, .int n_toLesser, .ref a_n_oranges])), (a_n_size, .inl (cI, 6, .inl n_size)), (a_f, .inr (1, [.ref a_t, .ref a_n, .ref a_h, .ref a_f_breakHour, .ref a_f_heardInTime])), (a_f_breakHour, .inl (cI, 6, .inl g10))] H locs → lv_has ls 3 [(0, .ref a_f), (2, .int x2)] → W p l e rm_X1_findBreaking s m args below meth c H locs 0 0 Q (F0 m 58 ls [.int y14, .int x1]) := by
            intro y14 hF H locs ls hw hl
            replace hF := hK15 y14 hF
            refine lv_ior hx hb (dq dt_X1_findBreaking 34 rfl) ?_
            obtain ⟨v16, ev16, hF⟩ := bd_ hF
            refine kNmI ev16 ?_
            refine lv_istore_n (lv' := [(1, .int v16), (0, .ref a_f), (2, .int x2)]) hx hb (dq dt_X1_findBreaking 35 rfl) rfl hl (by decide) rfl (fun ls hl => ?_)
            obtain ⟨v17, ev17, hF⟩ := bd_ hF
            refine lv_iinc (v := v17) (lv' := [(2, .int v17), (1, .int v16), (0, .ref a_f)]) hx hb (dq dt_X1_findBreaking 36 rfl) hl (k := 2) rfl ev17.symm (by decide) rfl (fun ls hl => ?_)
            refine lv_goto (tgt := 4) hx hb (dq dt_X1_findBreaking 37 rfl) (by decide) ?_
            exact ih4 v16 v17 g10 hF _ _ _ hw (lv_sub hl [2, 1, 0] rfl)
          refine lv_if_le (tgt := 57) hx hb (dq dt_X1_findBreaking 28 rfl) (by decide) (fun c18 => ?_) (fun c18 => ?_)
          · replace hF := if_t c18 hF
            refine lv_iconst (v := (0 : Int32)) hx hb (dq dt_X1_findBreaking 33 rfl) (by decide) ?_
            exact J15 (0 : Int32) hF _ _ _ hw (lv_sub hl [0, 2] rfl)
          · replace hF := if_f c18 hF
            refine lv_iconst (v := (1 : Int32)) hx hb (dq dt_X1_findBreaking 29 rfl) (by decide) ?_
            refine lv_iload_n hx hb (dq dt_X1_findBreaking 30 rfl) rfl (lv_at hl 2 rfl) ?_
            refine lv_ishl hx hb (dq dt_X1_findBreaking 31 rfl) ?_
            refine lv_goto (tgt := 58) hx hb (dq dt_X1_findBreaking 32 rfl) (by decide) ?_
            exact J15 ((1 : Int32) <<< (x2 &&& 31)) hF _ _ _ hw (lv_sub hl [0, 2] rfl)
        refine lv_if_eq (tgt := 35) hx hb (dq dt_X1_findBreaking 16 rfl) (by decide) (fun c19 => ?_) (fun c19 => ?_)
        · replace hF := if_t c19 hF
          refine lv_aload_n hx hb (dq dt_X1_findBreaking 19 rfl) rfl (lv_at hl 0 rfl) ?_
          refine lv_iload_n hx hb (dq dt_X1_findBreaking 20 rfl) rfl (lv_at hl 2 rfl) ?_
          obtain ⟨v20, hr21, hF⟩ := zc1_ hF
          refine kCallVR C hw (A_X1_hoursToBreak l D cB cI cJ cZ ad a_t a_t_tides a_t_seepYard a_t_seepSize a_t_growth a_t_level a_t_kind a_t_childYard a_t_pace a_t_ear a_n a_n_size a_n_yard a_n_oranges a_f a_h a_f_breakHour a_f_heardInTime t_yards t_seeps t_children t_tides t_growth t_level n_hours n_filled n_toLesser n_size x2 v20 hr21) (cwV 1 C.2.2.2.2.2.2.1 (w0_V0 q3_157 q3_179 q3_155 q3_156 q1_5) rfl rfl rfl kd_X1_hoursToBreak ⟨Nat.le_of_ble_eq_true rfl, Nat.le_of_ble_eq_true rfl⟩) [0, 1, 2, 3, 4, 5, 6] rfl rfl 6 1 rfl rfl hl.1 rfl rfl rfl (Nat.le_of_ble_eq_true rfl) ⟨Nat.le_of_ble_eq_true rfl, Nat.le_of_ble_eq_true rfl⟩ (dq dt_X1_findBreaking 21 rfl) (fun H locs hw => ?_)
          exact J9 v20 hF _ _ _ hw (lv_sub hl [0, 1, 2] rfl)
        · replace hF := if_f c19 hF
          refine lv_iconst (v := (-1 : Int32)) hx hb (dq dt_X1_findBreaking 17 rfl) (by decide) ?_
          refine lv_goto (tgt := 40) hx hb (dq dt_X1_findBreaking 18 rfl) (by decide) ?_
          exact J9 (-1 : Int32) hF _ _ _ hw (lv_sub hl [0, 1, 2] rfl)
  exact L4 _ (0 : Int32) (0 : Int32) f_breakHour hF _ _ _ hw (lv_sub hl [2, 1, 0] rfl)
