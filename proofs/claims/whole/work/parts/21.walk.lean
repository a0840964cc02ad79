def F_X9_breaksIn (m_yards : Int32) (m_seepMany : Int32) (m_many : Int32) (m_row : Nat → Int32) (m_tides : Nat → Int32) (m_seeps : Nat → Int32) (m_paces : Nat → Int32) (p1 : Int32) : Option (Int32 × (Nat → Int32)) :=
  zc1 (F_X9_copy m_row (0 : Int32) (57 : Int32)) (fun g1 => zl2 (fun x3 h4 ag5 => zj0 (rd 95 h4 ((57 : Int32) + p1) (fun v7 => if v7 = (100 : Int32) then (some (x3, h4)) else (some ((-1 : Int32), h4)))) (fun K6 => if (999 : Int32) ≤ x3 then (K6) else (rd 95 h4 ((57 : Int32) + p1) (fun v11 => if (100 : Int32) ≤ v11 then (K6) else (zc1 (F_X9_hour m_yards m_seepMany m_many h4 m_tides m_seeps m_paces (57 : Int32)) (fun g14 => bd (x3 + (1 : Int32)) (fun v16 => ag5 v16 g14))))))) FU (0 : Int32) g1)
abbrev rm_X9_breaksIn : Room := { frames := 3, cells := 0, slots := 0, locals := 69 }
theorem kd_X9_breaksIn : yX9_breaksIn.cls = RX9 ∧ yX9_breaksIn.cls ≠ "java/lang/invoke/MethodHandle" ∧ yX9_breaksIn.cls ≠ "java/lang/invoke/VarHandle" ∧ (parseMethodDescriptor yX9_breaksIn.desc).map (fun d => d.parameters.length) = some 1 := by decide +kernel
set_option maxRecDepth 100000 in
set_option maxHeartbeats 4000000 in
theorem A_X9_breaksIn (l : Launch) (D : va_G) (cB cI cJ cZ : ClassId) (ad : (Nat → Nat) × (Nat → Nat)) (a_m a_m_row a_m_isKept a_m_text a_m_read a_m_tides a_m_seeps a_m_kinds a_m_paces a_m_ears a_m_hearers a_m_chosen a_m_dues a_m_sights : Nat) (m_length : Int32) (m_readMany : Int32) (m_yards : Int32) (m_seepMany : Int32) (m_many : Int32) (m_at : Int32) (m_place : Int32) (m_end : Int32) (m_readYards : Int32) (m_readSeeps : Int32) (m_readChildren : Int32) (m_chosenMany : Int32) (m_seenMany : Int32) (m_row : Nat → Int32) (m_tides : Nat → Int32) (m_seeps : Nat → Int32) (m_paces : Nat → Int32) (p1 : Int32) (r : Int32) (m_row' : Nat → Int32) (hF : F_X9_breaksIn m_yards m_seepMany m_many m_row m_tides m_seeps m_paces p1 = some (r, m_row')) : kM l yX9_breaksIn (Cond.code yX9_breaksIn cX9_breaksIn 3 (some .int) :: W0) rm_X9_breaksIn D (kT cB cI cJ cZ) ad [.ref a_m, .int p1] [(a_m, .inr (9, [.ref a_m_row, .ref a_m_isKept, .ref a_m_text, .int m_length, .ref a_m_read, .int m_readMany, .int m_yards, .ref a_m_tides, .ref a_m_seeps, .int m_seepMany, .ref a_m_kinds, .ref a_m_paces, .ref a_m_ears, .int m_many, .int m_at, .int m_place, .int m_end, .int m_readYards, .int m_readSeeps, .int m_readChildren, .ref a_m_hearers, .ref a_m_chosen, .int m_chosenMany, .ref a_m_dues, .ref a_m_sights, .int m_seenMany])), (a_m_row, .inl (cI, 95, .inl m_row)), (a_m_tides, .inl (cI, 12, .inl m_tides)), (a_m_seeps, .inl (cI, 18, .inl m_seeps)), (a_m_paces, .inl (cI, 5, .inl m_paces))] (some (.int r)) [(a_m, .inr (9, [.ref a_m_row, .ref a_m_isKept, .ref a_m_text, .int m_length, .ref a_m_read, .int m_readMany, .int m_yards, .ref a_m_tides, .ref a_m_seeps, .int m_seepMany, .ref a_m_kinds, .ref a_m_paces, .ref a_m_ears, .int m_many, .int m_at, .int m_place, .int m_end, .int m_readYards, .int m_readSeeps, .int m_readChildren, .ref a_m_hearers, .ref a_m_chosen, .int m_chosenMany, .ref a_m_dues, .ref a_m_sights, .int m_seenMany])), (a_m_row, .inl (cI, 95, .inl (m_row'))), (a_m_tides, .inl (cI, 12, .inl m_tides)), (a_m_seeps, .inl (cI, 18, .inl m_seeps)), (a_m_paces, .inl (cI, 5, .inl m_paces))] := by
  unfold F_X9_breaksIn at hF
  refine kStart (lv := [(0, .ref a_m), (1, .int p1)]) (own := "DikeWatchModel") (plainFor_of_name (by decide)) rfl (Nat.le_of_ble_eq_true rfl) rfl ?_
  intro p e s m args below meth c A Q ls hQ C hx hb hw hl
  refine lv_aload_n hx hb (dq dt_X9_breaksIn 0 rfl) rfl (lv_at hl 0 rfl) ?_
  refine lv_iconst (v := (0 : Int32)) hx hb (dq dt_X9_breaksIn 1 rfl) (by decide) ?_
  refine lv_bipush (v := (57 : Int32)) hx hb (dq dt_X9_breaksIn 2 rfl) (by decide) ?_
  obtain ⟨g1, hr2, hF⟩ := zc1_ hF
  refine kCallV (ws2 := [(a_m, .inr (9, [.ref a_m_row, .ref a_m_isKept, .ref a_m_text, .int m_length, .ref a_m_read, .int m_readMany, .int m_yards, .ref a_m_tides, .ref a_m_seeps, .int m_seepMany, .ref a_m_kinds, .ref a_m_paces, .ref a_m_ears, .int m_many, .int m_at, .int m_place, .int m_end, .int m_readYards, .int m_readSeeps, .int m_readChildren, .ref a_m_hearers, .ref a_m_chosen, .int m_chosenMany, .ref a_m_dues, .ref a_m_sights, .int m_seenMany])), (a_m_row, .inl (cI, 95, .inl g1)), (a_m_tides, .inl (cI, 12, .inl m_tides)), (a_m_seeps, .inl (cI, 18, .inl m_seeps)), (a_m_paces, .inl (cI, 5, .inl m_paces))]) C hw (A_X9_copy l D cB cI cJ cZ ad a_m a_m_row a_m_isKept a_m_text a_m_read a_m_tides a_m_seeps a_m_kinds a_m_paces a_m_ears a_m_hearers a_m_chosen a_m_dues a_m_sights m_length m_readMany m_yards m_seepMany m_many m_at m_place m_end m_readYards m_readSeeps m_readChildren m_chosenMany m_seenMany m_row (0 : Int32) (57 : Int32) g1 hr2) (cwV 2 C.2.2.2.2.2.2.1 (w0_V0 q5_12 q5_9 q5_11 (ws0 31 rfl) q1_10) rfl rfl rfl kd_X9_copy ⟨Nat.le_of_ble_eq_true rfl, Nat.le_of_ble_eq_true rfl⟩) [0, 1] rfl rfl rfl rfl 0 9 rfl rfl hl.1 rfl rfl rfl (Nat.le_of_ble_eq_true rfl) ⟨Nat.le_of_ble_eq_true rfl, Nat.le_of_ble_eq_true rfl⟩ (dq dt_X9_breaksIn 3 rfl) (fun H locs hw => ?_)
  refine lv_iconst (v := (0 : Int32)) hx hb (dq dt_X9_breaksIn 4 rfl) (by decide) ?_
  refine lv_istore_n (lv' := [(2, .int (0 : Int32)), (0, .ref a_m), (1, .int p1)]) hx hb (dq dt_X9_breaksIn 5 rfl) rfl hl (by decide) rfl (fun ls hl => ?_)
  obtain ⟨K5, hK05, hK5, hF⟩ := zl2_ hF
  have L5 : ∀ (n : Nat) (x3 : Int32) (h4 : Nat → Int32), K5 n x3 h4 = some (r, m_row') → ∀ (H : Heap) (locs : List Loc) (ls : Array Slot), kW D A s.heap [(a_m, .inr (9, [.ref a_m_row, .ref a_m_isKept, .ref a_m_text, .int m_length, .ref a_m_read, .int m_readMany, .int m_yards, .ref a_m_tides, .ref a_m_seeps, .int m_seepMany, .ref a_m_kinds, .ref a_m_paces, .ref a_m_ears, .int m_many, .int m_at, .int m_place, .int m_end, .int m_readYards, .int m_readSeeps, .int m_readChildren, .ref a_m_hearers, .ref a_m_chosen, .int m_chosenMany, .ref a_m_dues, .ref a_m_sights, .int m_seenMany])), (a_m_row, .inl (cI, 95, .inl h4)), (a_m_tides, .inl (cI, 12, .inl m_tides)), (a_m_seeps, .inl (cI, 18, .inl m_seeps)), (a_m_paces, .inl (cI, 5, .inl m_paces))] H locs → lv_has ls 3 [(0, .ref a_m), (1, .int p1), (2, .int x3)] → W p l e rm_X9_breaksIn s m args below meth c H locs 0 0 Q (F0 m 9 ls []) := by
    intro n
    induction n with
    | zero => intro x3 h4 hF; exact (lp_no (hK05 x3 h4) hF).elim
    | succ n ih5 =>
      intro x3 h4 hF H locs ls hw hl
      replace hF := hK5 n x3 h4 hF
      refine lv_iload_n hx hb (dq dt_X9_breaksIn 6 rfl) rfl (lv_at hl 2 rfl) ?_
      refine lv_sipush (v := (999 : Int32)) hx hb (dq dt_X9_breaksIn 7 rfl) (by decide) ?_
      obtain ⟨K6, hK6, hF⟩ := zj0_ hF
      have J6 : K6 = some (r, m_row') → ∀ (H : Heap) (locs : List Loc) (ls : Array Slot), kW D A s.heap [(a_m, .inr (9, [.ref a_m_row, .ref a_m_isKept, .ref a_m_text, .int m_length, .ref a_m_read, .int m_readMany, .int m_yards, .ref a_m_tides, .ref a_m_seeps, .int m_seepMany, .ref a_m_kinds, .ref a_m_paces, .ref a_m_ears, .int m_many, .int m_at, .int m_place, .int m_end, .int m_readYards, .int m_readSeeps, .int m_readChildren, .ref a_m_hearers, .ref a_m_chosen, .int m_chosenMany, .ref a_m_dues, .ref a_m_sights, .int m_seenMany])), (a_m_row, .inl (cI, 95, .inl h4)), (a_m_tides, .inl (cI, 12, .inl m_tides)), (a_m_seeps, .inl (cI, 18, .inl m_seeps)), (a_m_paces, .inl (cI, 5, .inl m_paces))] H locs → lv_has ls 3 [(0, .ref a_m), (1, .int p1), (2, .int x3)] → W p l e rm_X9_breaksIn s m args below meth c H locs 0 0 Q (F0 m 42 ls []) := by
        intro hF H locs ls hw hl
        replace hF := hK6 hF
        refine lv_aload_n hx hb (dq dt_X9_breaksIn 22 rfl) rfl (lv_at hl 0 rfl) ?_
        refine kGet (ci := 9) C in_X9 hw 0 rfl rfl 0 (by decide) (C.2.2.2.2.2.2.1 _ q4_95) rfl rfl (dq dt_X9_breaksIn 23 rfl) ?_
        refine lv_bipush (v := (57 : Int32)) hx hb (dq dt_X9_breaksIn 24 rfl) (by decide) ?_
        refine lv_iload_n hx hb (dq dt_X9_breaksIn 25 rfl) rfl (lv_at hl 1 rfl) ?_
        refine lv_iadd hx hb (dq dt_X9_breaksIn 26 rfl) ?_
        obtain ⟨v7, ev7, hi8, hF⟩ := rd_ hF
        refine kIald C hw 1 1 rfl rfl hi8 ev7 (dq dt_X9_breaksIn 27 rfl) ?_
        refine lv_bipush (v := (100 : Int32)) hx hb (dq dt_X9_breaksIn 28 rfl) (by decide) ?_
        refine lv_icmp_ne (tgt := 60) hx hb (dq dt_X9_breaksIn 29 rfl) (by decide) (fun c9 => ?_) (fun c9 => ?_)
        · replace hF := if_f c9 hF
          refine lv_iconst (v := (-1 : Int32)) hx hb (dq dt_X9_breaksIn 32 rfl) (by decide) ?_
          cases hF
          exact kRetI hQ C hw (dq dt_X9_breaksIn 33 rfl)
        · replace hF := if_t c9 hF
          refine lv_iload_n hx hb (dq dt_X9_breaksIn 30 rfl) rfl (lv_at hl 2 rfl) ?_
          refine lv_goto (tgt := 61) hx hb (dq dt_X9_breaksIn 31 rfl) (by decide) ?_
          cases hF
          exact kRetI hQ C hw (dq dt_X9_breaksIn 33 rfl)
      refine lv_icmp_ge (tgt := 42) hx hb (dq dt_X9_breaksIn 8 rfl) (by decide) (fun c10 => ?_) (fun c10 => ?_)
      · replace hF := if_t c10 hF
        exact J6 hF _ _ _ hw (lv_sub hl [0, 1, 2] rfl)
      · replace hF := if_f c10 hF
        refine lv_aload_n hx hb (dq dt_X9_breaksIn 9 rfl) rfl (lv_at hl 0 rfl) ?_
        refine kGet (ci := 9) C in_X9 hw 0 rfl rfl 0 (by decide) (C.2.2.2.2.2.2.1 _ q4_95) rfl rfl (dq dt_X9_breaksIn 10 rfl) ?_
        refine lv_bipush (v := (57 : Int32)) hx hb (dq dt_X9_breaksIn 11 rfl) (by decide) ?_
        refine lv_iload_n hx hb (dq dt_X9_breaksIn 12 rfl) rfl (lv_at hl 1 rfl) ?_
        refine lv_iadd hx hb (dq dt_X9_breaksIn 13 rfl) ?_
        obtain ⟨v11, ev11, hi12, hF⟩ := rd_ hF
        refine kIald C hw 1 1 rfl rfl hi12 ev11 (dq dt_X9_breaksIn 14 rfl) ?_
        refine lv_bipush (v := (100 : Int32)) hx hb (dq dt_X9_breaksIn 15 rfl) (by decide) ?_
        refine lv_icmp_ge (tgt := 42) hx hb (dq dt_X9_breaksIn 16 rfl) (by decide) (fun c13 => ?_) (fun c13 => ?_)
        · replace hF := if_t c13 hF
          exact J6 hF _ _ _ hw (lv_sub hl [0, 1, 2] rfl)
        · replace hF := if_f c13 hF
          refine lv_aload_n hx hb (dq dt_X9_breaksIn 17 rfl) rfl (lv_at hl 0 rfl) ?_
          refine lv_bipush (v := (57 : Int32)) hx hb (dq dt_X9_breaksIn 18 rfl) (by decide) ?_
          obtain ⟨g14, hr15, hF⟩ := zc1_ hF
          refine kCallV (ws2 := [(a_m, .inr (9, [.ref a_m_row, .ref a_m_isKept, .ref a_m_text, .int m_length, .ref a_m_read, .int m_readMany, .int m_yards, .ref a_m_tides, .ref a_m_seeps, .int m_seepMany, .ref a_m_kinds, .ref a_m_paces, .ref a_m_ears, .int m_many, .int m_at, .int m_place, .int m_end, .int m_readYards, .int m_readSeeps, .int m_readChildren, .ref a_m_hearers, .ref a_m_chosen, .int m_chosenMany, .ref a_m_dues, .ref a_m_sights, .int m_seenMany])), (a_m_row, .inl (cI, 95, .inl g14)), (a_m_tides, .inl (cI, 12, .inl m_tides)), (a_m_seeps, .inl (cI, 18, .inl m_seeps)), (a_m_paces, .inl (cI, 5, .inl m_paces))]) C hw (A_X9_hour l D cB cI cJ cZ ad a_m a_m_row a_m_isKept a_m_text a_m_read a_m_tides a_m_seeps a_m_kinds a_m_paces a_m_ears a_m_hearers a_m_chosen a_m_dues a_m_sights m_length m_readMany m_yards m_seepMany m_many m_at m_place m_end m_readYards m_readSeeps m_readChildren m_chosenMany m_seenMany h4 m_tides m_seeps m_paces (57 : Int32) g14 hr15) (cwV 1 C.2.2.2.2.2.2.1 (w0_V0 q5_69 q5_66 q5_68 (ws0 38 rfl) q1_10) rfl rfl rfl kd_X9_hour ⟨Nat.le_of_ble_eq_true rfl, Nat.le_of_ble_eq_true rfl⟩) [0, 1, 2, 3, 4] rfl rfl rfl rfl 0 9 rfl rfl hl.1 rfl rfl rfl (Nat.le_of_ble_eq_true rfl) ⟨Nat.le_of_ble_eq_true rfl, Nat.le_of_ble_eq_true rfl⟩ (dq dt_X9_breaksIn 19 rfl) (fun H locs hw => ?_)
          obtain ⟨v16, ev16, hF⟩ := bd_ hF
          refine lv_iinc (v := v16) (lv' := [(2, .int v16), (0, .ref a_m), (1, .int p1)]) hx hb (dq dt_X9_breaksIn 20 rfl) hl (k := 2) rfl ev16.symm (by decide) rfl (fun ls hl => ?_)
          refine lv_goto (tgt := 9) hx hb (dq dt_X9_breaksIn 21 rfl) (by decide) ?_
          exact ih5 v16 g14 hF _ _ _ hw (lv_sub hl [1, 2, 0] rfl)
  exact L5 _ (0 : Int32) g1 hF _ _ _ hw (lv_sub hl [1, 2, 0] rfl)
def F_X9_breaks (m_yards : Int32) (m_seepMany : Int32) (m_many : Int32) (m_row : Nat → Int32) (m_tides : Nat → Int32) (m_seeps : Nat → Int32) (m_paces : Nat → Int32) (p1 : Int32) : Option (Int32 × (Nat → Int32)) :=
  zc1 (F_X9_isSeep m_seepMany p1) (fun v1 => if v1 = 0 then (some ((-2 : Int32), m_row)) else (rd 95 m_row (6 : Int32) (fun v4 => zc1 (F_X9_has v4 p1) (fun v6 => if v6 = 0 then (zc2 (F_X9_breaksIn m_yards m_seepMany m_many m_row m_tides m_seeps m_paces p1) (fun v9 g10 => some (v9, g10))) else (some ((-4 : Int32), m_row))))))
abbrev rm_X9_breaks : Room := { frames := 4, cells := 0, slots := 0, locals := 91 }
theorem kd_X9_breaks : yX9_breaks.cls = RX9 ∧ yX9_breaks.cls ≠ "java/lang/invoke/MethodHandle" ∧ yX9_breaks.cls ≠ "java/lang/invoke/VarHandle" ∧ (parseMethodDescriptor yX9_breaks.desc).map (fun d => d.parameters.length) = some 1 := by decide +kernel
set_option maxRecDepth 100000 in
set_option maxHeartbeats 4000000 in
theorem A_X9_breaks (l : Launch) (D : va_G) (cB cI cJ cZ : ClassId) (ad : (Nat → Nat) × (Nat → Nat)) (a_m a_m_row a_m_isKept a_m_text a_m_read a_m_tides a_m_seeps a_m_kinds a_m_paces a_m_ears a_m_hearers a_m_chosen a_m_dues a_m_sights : Nat) (m_length : Int32) (m_readMany : Int32) (m_yards : Int32) (m_seepMany : Int32) (m_many : Int32) (m_at : Int32) (m_place : Int32) (m_end : Int32) (m_readYards : Int32) (m_readSeeps : Int32) (m_readChildren : Int32) (m_chosenMany : Int32) (m_seenMany : Int32) (m_row : Nat → Int32) (m_tides : Nat → Int32) (m_seeps : Nat → Int32) (m_paces : Nat → Int32) (p1 : Int32) (r : Int32) (m_row' : Nat → Int32) (hF : F_X9_breaks m_yards m_seepMany m_many m_row m_tides m_seeps m_paces p1 = some (r, m_row')) : kM l yX9_breaks (Cond.code yX9_breaks cX9_breaks 2 (some .int) :: W0) rm_X9_breaks D (kT cB cI cJ cZ) ad [.ref a_m, .int p1] [(a_m, .inr (9, [.ref a_m_row, .ref a_m_isKept, .ref a_m_text, .int m_length, .ref a_m_read, .int m_readMany, .int m_yards, .ref a_m_tides, .ref a_m_seeps, .int m_seepMany, .ref a_m_kinds, .ref a_m_paces, .ref a_m_ears, .int m_many, .int m_at, .int m_place, .int m_end, .int m_readYards, .int m_readSeeps, .int m_readChildren, .ref a_m_hearers, .ref a_m_chosen, .int m_chosenMany, .ref a_m_dues, .ref a_m_sights, .int m_seenMany])), (a_m_row, .inl (cI, 95, .inl m_row)), (a_m_tides, .inl (cI, 12, .inl m_tides)), (a_m_seeps, .inl (cI, 18, .inl m_seeps)), (a_m_paces, .inl (cI, 5, .inl m_paces))] (some (.int r)) [(a_m, .inr (9, [.ref a_m_row, .ref a_m_isKept, .ref a_m_text, .int m_length, .ref a_m_read, .int m_readMany, .int m_yards, .ref a_m_tides, .ref a_m_seeps, .int m_seepMany, .ref a_m_kinds, .ref a_m_paces, .ref a_m_ears, .int m_many, .int m_at, .int m_place, .int m_end, .int m_readYards, .int m_readSeeps, .int m_readChildren, .ref a_m_hearers, .ref a_m_chosen, .int m_chosenMany, .ref a_m_dues, .ref a_m_sights, .int m_seenMany])), (a_m_row, .inl (cI, 95, .inl (m_row'))), (a_m_tides, .inl (cI, 12, .inl m_tides)), (a_m_seeps, .inl (cI, 18, .inl m_seeps)), (a_m_paces, .inl (cI, 5, .inl m_paces))] := by
  unfold F_X9_breaks at hF
  refine kStart (lv := [(0, .ref a_m), (1, .int p1)]) (own := "DikeWatchModel") (plainFor_of_name (by decide)) rfl (Nat.le_of_ble_eq_true rfl) rfl ?_
  intro p e s m args below meth c A Q ls hQ C hx hb hw hl
  refine lv_aload_n hx hb (dq dt_X9_breaks 0 rfl) rfl (lv_at hl 0 rfl) ?_
  refine lv_iload_n hx hb (dq dt_X9_breaks 1 rfl) rfl (lv_at hl 1 rfl) ?_
  obtain ⟨v1, hr2, hF⟩ := zc1_ hF
  refine kCallVR C hw (A_X9_isSeep l D cB cI cJ cZ ad a_m a_m_row a_m_isKept a_m_text a_m_read a_m_tides a_m_seeps a_m_kinds a_m_paces a_m_ears a_m_hearers a_m_chosen a_m_dues a_m_sights m_length m_readMany m_yards m_seepMany m_many m_at m_place m_end m_readYards m_readSeeps m_readChildren m_chosenMany m_seenMany p1 v1 hr2) (cwV 1 C.2.2.2.2.2.2.1 (w0_V0 q5_25 q5_22 q5_24 (ws0 32 rfl) q1_10) rfl rfl rfl kd_X9_isSeep ⟨Nat.le_of_ble_eq_true rfl, Nat.le_of_ble_eq_true rfl⟩) [0] rfl rfl 0 9 rfl rfl hl.1 rfl rfl rfl (Nat.le_of_ble_eq_true rfl) ⟨Nat.le_of_ble_eq_true rfl, Nat.le_of_ble_eq_true rfl⟩ (dq dt_X9_breaks 2 rfl) (fun H locs hw => ?_)
  refine lv_if_ne (tgt := 11) hx hb (dq dt_X9_breaks 3 rfl) (by decide) (fun c3 => ?_) (fun c3 => ?_)
  · replace hF := if_f c3 hF
    refine lv_aload_n hx hb (dq dt_X9_breaks 6 rfl) rfl (lv_at hl 0 rfl) ?_
    refine kGet (ci := 9) C in_X9 hw 0 rfl rfl 0 (by decide) (C.2.2.2.2.2.2.1 _ q4_95) rfl rfl (dq dt_X9_breaks 7 rfl) ?_
    refine lv_bipush (v := (6 : Int32)) hx hb (dq dt_X9_breaks 8 rfl) (by decide) ?_
    obtain ⟨v4, ev4, hi5, hF⟩ := rd_ hF
    refine kIald C hw 1 1 rfl rfl hi5 ev4 (dq dt_X9_breaks 9 rfl) ?_
    refine lv_iload_n hx hb (dq dt_X9_breaks 10 rfl) rfl (lv_at hl 1 rfl) ?_
    obtain ⟨v6, hr7, hF⟩ := zc1_ hF
    refine kCallSP C hw (A_X9_has l D cB cI cJ cZ ad v4 p1 v6 hr7) (va_cwS 2 C.2.2.2.2.2.2.1 (w0_S0 q5_52 q5_50 q5_51 q1_10) rfl rfl rfl ke_X9_has ⟨Nat.le_of_ble_eq_true rfl, Nat.le_of_ble_eq_true rfl⟩) hl.1 rfl rfl rfl (Nat.le_of_ble_eq_true rfl) ⟨Nat.le_of_ble_eq_true rfl, Nat.le_of_ble_eq_true rfl⟩ (dq dt_X9_breaks 11 rfl) (fun H locs hw => ?_)
    refine lv_if_eq (tgt := 30) hx hb (dq dt_X9_breaks 12 rfl) (by decide) (fun c8 => ?_) (fun c8 => ?_)
    · replace hF := if_t c8 hF
      refine lv_aload_n hx hb (dq dt_X9_breaks 15 rfl) rfl (lv_at hl 0 rfl) ?_
      refine lv_iload_n hx hb (dq dt_X9_breaks 16 rfl) rfl (lv_at hl 1 rfl) ?_
      obtain ⟨v9, g10, hr11, hF⟩ := zc2_ hF
      refine kCallV (ws2 := [(a_m, .inr (9, [.ref a_m_row, .ref a_m_isKept, .ref a_m_text, .int m_length, .ref a_m_read, .int m_readMany, .int m_yards, .ref a_m_tides, .ref a_m_seeps, .int m_seepMany, .ref a_m_kinds, .ref a_m_paces, .ref a_m_ears, .int m_many, .int m_at, .int m_place, .int m_end, .int m_readYards, .int m_readSeeps, .int m_readChildren, .ref a_m_hearers, .ref a_m_chosen, .int m_chosenMany, .ref a_m_dues, .ref a_m_sights, .int m_seenMany])), (a_m_row, .inl (cI, 95, .inl g10)), (a_m_tides, .inl (cI, 12, .inl m_tides)), (a_m_seeps, .inl (cI, 18, .inl m_seeps)), (a_m_paces, .inl (cI, 5, .inl m_paces))]) C hw (A_X9_breaksIn l D cB cI cJ cZ ad a_m a_m_row a_m_isKept a_m_text a_m_read a_m_tides a_m_seeps a_m_kinds a_m_paces a_m_ears a_m_hearers a_m_chosen a_m_dues a_m_sights m_length m_readMany m_yards m_seepMany m_many m_at m_place m_end m_readYards m_readSeeps m_readChildren m_chosenMany m_seenMany m_row m_tides m_seeps m_paces p1 v9 g10 hr11) (cwV 1 C.2.2.2.2.2.2.1 (w0_V0 q5_102 q5_99 q5_101 (ws0 41 rfl) q1_10) rfl rfl rfl kd_X9_breaksIn ⟨Nat.le_of_ble_eq_true rfl, Nat.le_of_ble_eq_true rfl⟩) [0, 1, 2, 3, 4] rfl rfl rfl rfl 0 9 rfl rfl hl.1 rfl rfl rfl (Nat.le_of_ble_eq_true rfl) ⟨Nat.le_of_ble_eq_true rfl, Nat.le_of_ble_eq_true rfl⟩ (dq dt_X9_breaks 17 rfl) (fun H locs hw => ?_)
      cases hF
      exact kRetI hQ C hw (dq dt_X9_breaks 18 rfl)
    · replace hF := if_f c8 hF
      refine lv_bipush (v := (-4 : Int32)) hx hb (dq dt_X9_breaks 13 rfl) (by decide) ?_
      refine lv_goto (tgt := 35) hx hb (dq dt_X9_breaks 14 rfl) (by decide) ?_
      cases hF
      exact kRetI hQ C hw (dq dt_X9_breaks 18 rfl)
  · replace hF := if_t c3 hF
    refine lv_bipush (v := (-2 : Int32)) hx hb (dq dt_X9_breaks 4 rfl) (by decide) ?_
    cases hF
    exact kRetI hQ C hw (dq dt_X9_breaks 5 rfl)
def F_X9_heardBy (m_yards : Int32) (m_seepMany : Int32) (m_many : Int32) (m_row : Nat → Int32) (m_tides : Nat → Int32) (m_seeps : Nat → Int32) (m_kinds : Nat → Int32) (m_paces : Nat → Int32) (m_ears : Nat → Int32) (p1 : Int32) : Option (Int32 × (Nat → Int32)) :=
  zc2 (F_X9_breaksIn m_yards m_seepMany m_many m_row m_tides m_seeps m_paces p1) (fun v1 g2 => zc1 (F_X9_copy g2 (0 : Int32) (57 : Int32)) (fun g4 => zl3 (fun x6 x7 h8 ag9 => if v1 ≤ x7 then (some (x6, h8)) else (zl2 (fun x11 x12 ag13 => if m_many ≤ x12 then (zc1 (F_X9_hour m_yards m_seepMany m_many h8 m_tides m_seeps m_paces (57 : Int32)) (fun g15 => bd (x7 + (1 : Int32)) (fun v17 => ag9 x11 v17 g15))) else (zc1 (F_X9_hears m_seepMany h8 m_seeps m_kinds m_ears (57 : Int32) x12) (fun v18 => zc1 (F_X9_has v18 p1) (fun v20 => zj1 (fun y22 => bd (x11 ||| y22) (fun v24 => bd (x12 + (1 : Int32)) (fun v25 => ag13 v24 v25))) (fun K23 => if v20 = 0 then (K23 (0 : Int32)) else (K23 ((1 : Int32) <<< (x12 &&& 31)))))))) FU x6 (0 : Int32))) FU (0 : Int32) (0 : Int32) g4))
abbrev rm_X9_heardBy : Room := { frames := 4, cells := 0, slots := 0, locals := 91 }
theorem kd_X9_heardBy : yX9_heardBy.cls = RX9 ∧ yX9_heardBy.cls ≠ "java/lang/invoke/MethodHandle" ∧ yX9_heardBy.cls ≠ "java/lang/invoke/VarHandle" ∧ (parseMethodDescriptor yX9_heardBy.desc).map (fun d => d.parameters.length) = some 1 := by decide +kernel
set_option maxRecDepth 100000 in
set_option maxHeartbeats 4000000 in
theorem A_X9_heardBy (l : Launch) (D : va_G) (cB cI cJ cZ : ClassId) (ad : (Nat → Nat) × (Nat → Nat)) (a_m a_m_row a_m_isKept a_m_text a_m_read a_m_tides a_m_seeps a_m_kinds a_m_paces a_m_ears a_m_hearers a_m_chosen a_m_dues a_m_sights : Nat) (m_length : Int32) (m_readMany : Int32) (m_yards : Int32) (m_seepMany : Int32) (m_many : Int32) (m_at : Int32) (m_place : Int32) (m_end : Int32) (m_readYards : Int32) (m_readSeeps : Int32) (m_readChildren : Int32) (m_chosenMany : Int32) (m_seenMany : Int32) (m_row : Nat → Int32) (m_tides : Nat → Int32) (m_seeps : Nat → Int32) (m_kinds : Nat → Int32) (m_paces : Nat → Int32) (m_ears : Nat → Int32) (p1 : Int32) (r : Int32) (m_row' : Nat → Int32) (hF : F_X9_heardBy m_yards m_seepMany m_many m_row m_tides m_seeps m_kinds m_paces m_ears p1 = some (r, m_row')) : kM l yX9_heardBy (Cond.code yX9_heardBy cX9_heardBy 6 (some .int) :: W0) rm_X9_heardBy D (kT cB cI cJ cZ) ad [.ref a_m, .int p1] [(a_m, .inr (9, [.ref a_m_row, .ref a_m_isKept, .ref a_m_text, .int m_length, .ref a_m_read, .int m_readMany, .int m_yards, .ref a_m_tides, .ref a_m_seeps, .int m_seepMany, .ref a_m_kinds, .ref a_m_paces, .ref a_m_ears, .int m_many, .int m_at, .int m_place, .int m_end, .int m_readYards, .int m_readSeeps, .int m_readChildren, .ref a_m_hearers, .ref a_m_chosen, .int m_chosenMany, .ref a_m_dues, .ref a_m_sights, .int m_seenMany])), (a_m_row, .inl (cI, 95, .inl m_row)), (a_m_tides, .inl (cI, 12, .inl m_tides)), (a_m_seeps, .inl (cI, 18, .inl m_seeps)), (a_m_kinds, .inl (cI, 5, .inl m_kinds)), (a_m_paces, .inl (cI, 5, .inl m_paces)), (a_m_ears, .inl (cI, 5, .inl m_ears))] (some (.int r)) [(a_m, .inr (9, [.ref a_m_row, .ref a_m_isKept, .ref a_m_text, .int m_length, .ref a_m_read, .int m_readMany, .int m_yards, .ref a_m_tides, .ref a_m_seeps, .int m_seepMany, .ref a_m_kinds, .ref a_m_paces, .ref a_m_ears, .int m_many, .int m_at, .int m_place, .int m_end, .int m_readYards, .int m_readSeeps, .int m_readChildren, .ref a_m_hearers, .ref a_m_chosen, .int m_chosenMany, .ref a_m_dues, .ref a_m_sights, .int m_seenMany])), (a_m_row, .inl (cI, 95, .inl (m_row'))), (a_m_tides, .inl (cI, 12, .inl m_tides)), (a_m_seeps, .inl (cI, 18, .inl m_seeps)), (a_m_kinds, .inl (cI, 5, .inl m_kinds)), (a_m_paces, .inl (cI, 5, .inl m_paces)), (a_m_ears, .inl (cI, 5, .inl m_ears))] := by
  unfold F_X9_heardBy at hF
  refine kStart (lv := [(0, .ref a_m), (1, .int p1)]) (own := "DikeWatchModel") (plainFor_of_name (by decide)) rfl (Nat.le_of_ble_eq_true rfl) rfl ?_
  intro p e s m args below meth c A Q ls hQ C hx hb hw hl
  refine lv_aload_n hx hb (dq dt_X9_heardBy 0 rfl) rfl (lv_at hl 0 rfl) ?_
  refine lv_iload_n hx hb (dq dt_X9_heardBy 1 rfl) rfl (lv_at hl 1 rfl) ?_
  obtain ⟨v1, g2, hr3, hF⟩ := zc2_ hF
  refine kCallV (ws2 := [(a_m, .inr (9, [.ref a_m_row, .ref a_m_isKept, .ref a_m_text, .int m_length, .ref a_m_read, .int m_readMany, .int m_yards, .ref a_m_tides, .ref a_m_seeps, .int m_seepMany, .ref a_m_kinds, .ref a_m_paces, .ref a_m_ears, .int m_many, .int m_at, .int m_place, .int m_end, .int m_readYards, .int m_readSeeps, .int m_readChildren, .ref a_m_hearers, .ref a_m_chosen, .int m_chosenMany, .ref a_m_dues, .ref a_m_sights, .int m_seenMany])), (a_m_row, .inl (cI, 95, .inl g2)), (a_m_tides, .inl (cI, 12, .inl m_tides)), (a_m_seeps, .inl (cI, 18, .inl m_seeps)), (a_m_kinds, .inl (cI, 5, .inl m_kinds)), (a_m_paces, .inl (cI, 5, .inl m_paces)), (a_m_ears, .inl (cI, 5, .inl m_ears))]) C hw (A_X9_breaksIn l D cB cI cJ cZ ad a_m a_m_row a_m_isKept a_m_text a_m_read a_m_tides a_m_seeps a_m_kinds a_m_paces a_m_ears a_m_hearers a_m_chosen a_m_dues a_m_sights m_length m_readMany m_yards m_seepMany m_many m_at m_place m_end m_readYards m_readSeeps m_readChildren m_chosenMany m_seenMany m_row m_tides m_seeps m_paces p1 v1 g2 hr3) (cwV 1 C.2.2.2.2.2.2.1 (w0_V0 q5_102 q5_99 q5_101 (ws0 41 rfl) q1_10) rfl rfl rfl kd_X9_breaksIn ⟨Nat.le_of_ble_eq_true rfl, Nat.le_of_ble_eq_true rfl⟩) [0, 1, 2, 3, 5] rfl rfl rfl rfl 0 9 rfl rfl hl.1 rfl rfl rfl (Nat.le_of_ble_eq_true rfl) ⟨Nat.le_of_ble_eq_true rfl, Nat.le_of_ble_eq_true rfl⟩ (dq dt_X9_heardBy 2 rfl) (fun H locs hw => ?_)
  refine lv_istore_n (lv' := [(2, .int v1), (0, .ref a_m), (1, .int p1)]) hx hb (dq dt_X9_heardBy 3 rfl) rfl hl (by decide) rfl (fun ls hl => ?_)
  refine lv_iconst (v := (0 : Int32)) hx hb (dq dt_X9_heardBy 4 rfl) (by decide) ?_
  refine lv_istore_n (lv' := [(3, .int (0 : Int32)), (2, .int v1), (0, .ref a_m), (1, .int p1)]) hx hb (dq dt_X9_heardBy 5 rfl) rfl hl (by decide) rfl (fun ls hl => ?_)
  refine lv_aload_n hx hb (dq dt_X9_heardBy 6 rfl) rfl (lv_at hl 2 rfl) ?_
  refine lv_iconst (v := (0 : Int32)) hx hb (dq dt_X9_heardBy 7 rfl) (by decide) ?_
  refine lv_bipush (v := (57 : Int32)) hx hb (dq dt_X9_heardBy 8 rfl) (by decide) ?_
  obtain ⟨g4, hr5, hF⟩ := zc1_ hF
  refine kCallV (ws2 := [(a_m, .inr (9, [.ref a_m_row, .ref a_m_isKept, .ref a_m_text, .int m_length, .ref a_m_read, .int m_readMany, .int m_yards, .ref a_m_tides, .ref a_m_seeps, .int m_seepMany, .ref a_m_kinds, .ref a_m_paces, .ref a_m_ears, .int m_many, .int m_at, .int m_place, .int m_end, .int m_readYards, .int m_readSeeps, .int m_readChildren, .ref a_m_hearers, .ref a_m_chosen, .int m_chosenMany, .ref a_m_dues, .ref a_m_sights, .int m_seenMany])), (a_m_row, .inl (cI, 95, .inl g4)), (a_m_tides, .inl (cI, 12, .inl m_tides)), (a_m_seeps, .inl (cI, 18, .inl m_seeps)), (a_m_kinds, .inl (cI, 5, .inl m_kinds)), (a_m_paces, .inl (cI, 5, .inl m_paces)), (a_m_ears, .inl (cI, 5, .inl m_ears))]) C hw (A_X9_copy l D cB cI cJ cZ ad a_m a_m_row a_m_isKept a_m_text a_m_read a_m_tides a_m_seeps a_m_kinds a_m_paces a_m_ears a_m_hearers a_m_chosen a_m_dues a_m_sights m_length m_readMany m_yards m_seepMany m_many m_at m_place m_end m_readYards m_readSeeps m_readChildren m_chosenMany m_seenMany g2 (0 : Int32) (57 : Int32) g4 hr5) (cwV 2 C.2.2.2.2.2.2.1 (w0_V0 q5_12 q5_9 q5_11 (ws0 31 rfl) q1_10) rfl rfl rfl kd_X9_copy ⟨Nat.le_of_ble_eq_true rfl, Nat.le_of_ble_eq_true rfl⟩) [0, 1] rfl rfl rfl rfl 0 9 rfl rfl hl.1 rfl rfl rfl (Nat.le_of_ble_eq_true rfl) ⟨Nat.le_of_ble_eq_true rfl, Nat.le_of_ble_eq_true rfl⟩ (dq dt_X9_heardBy 9 rfl) (fun H locs hw => ?_)
  refine lv_iconst (v := (0 : Int32)) hx hb (dq dt_X9_heardBy 10 rfl) (by decide) ?_
  refine lv_istore (lv' := [(4, .int (0 : Int32)), (3, .int (0 : Int32)), (2, .int v1), (0, .ref a_m), (1, .int p1)]) hx hb (dq dt_X9_heardBy 11 rfl) hl (by decide) rfl (fun ls hl => ?_)
  obtain ⟨K9, hK09, hK9, hF⟩ := zl3_ hF
  have L9 : ∀ (n : Nat) (x6 : Int32) (x7 : Int32) (h8 : Nat → Int32), K9 n x6 x7 h8 = some (r, m_row') → ∀ (H : Heap) (locs : List Loc) (ls : Array Slot), kW D A s.heap [(a_m, .inr (9, [.ref a_m_row, .ref a_m_isKept, .ref a_m_text, .int m_length, .ref a_m_read, .int m_readMany, .int m_yards, .ref a_m_tides, .ref a_m_seeps, .int m_seepMany, .ref a_m_kinds, .ref a_m_paces, .ref a_m_ears, .int m_many, .int m_at, .int m_place, .int m_end, .int m_readYards, .int m_readSeeps, .int m_readChildren, .ref a_m_hearers, .ref a_m_chosen, .int m_chosenMany, .ref a_m_dues, .ref a_m_sights, .int m_seenMany])), (a_m_row, .inl (cI, 95, .inl h8)), (a_m_tides, .inl (cI, 12, .inl m_tides)), (a_m_seeps, .inl (cI, 18, .inl m_seeps)), (a_m_kinds, .inl (cI, 5, .inl m_kinds)), (a_m_paces, .inl (cI, 5, .inl m_paces)), (a_m_ears, .inl (cI, 5, .inl m_ears))] H locs → lv_has ls 6 [(0, .ref a_m), (1, .int p1), (2, .int v1), (3, .int x6), (4, .int x7)] → W p l e rm_X9_heardBy s m args below meth c H locs 0 0 Q (F0 m 18 ls []) := by
    intro n
    induction n with
    | zero => intro x6 x7 h8 hF; exact (lp_no (hK09 x6 x7 h8) hF).elim
    | succ n ih9 =>
      intro x6 x7 h8 hF H locs ls hw hl
      replace hF := hK9 n x6 x7 h8 hF
      refine lv_iload hx hb (dq dt_X9_heardBy 12 rfl) (lv_at hl 4 rfl) ?_
      refine lv_iload_n hx hb (dq dt_X9_heardBy 13 rfl) rfl (lv_at hl 2 rfl) ?_
      refine lv_icmp_ge (tgt := 80) hx hb (dq dt_X9_heardBy 14 rfl) (by decide) (fun c10 => ?_) (fun c10 => ?_)
      · replace hF := if_t c10 hF
        refine lv_iload_n hx hb (dq dt_X9_heardBy 43 rfl) rfl (lv_at hl 3 rfl) ?_
        cases hF
        exact kRetI hQ C hw (dq dt_X9_heardBy 44 rfl)
      · replace hF := if_f c10 hF
        refine lv_iconst (v := (0 : Int32)) hx hb (dq dt_X9_heardBy 15 rfl) (by decide) ?_
        refine lv_istore (lv' := [(5, .int (0 : Int32)), (0, .ref a_m), (1, .int p1), (2, .int v1), (3, .int x6), (4, .int x7)]) hx hb (dq dt_X9_heardBy 16 rfl) hl (by decide) rfl (fun ls hl => ?_)
        obtain ⟨K13, hK013, hK13, hF⟩ := zl2_ hF
        have L13 : ∀ (n : Nat) (x11 : Int32) (x12 : Int32), K13 n x11 x12 = some (r, m_row') → ∀ (H : Heap) (locs : List Loc) (ls : Array Slot), kW D A s.heap [(a_m, .inr (9, [.ref a_m_row, .ref a_m_isKept, .ref a_m_text, .int m_length, .ref a_m_read, .int m_readMany, .int m_yards, .ref a_m_tides, .ref a_m_seeps, .int m_seepMany, .ref a_m_kinds, .ref a_m_paces, .ref a_m_ears, .int m_many, .int m_at, .int m_place, .int m_end, .int m_readYards, .int m_readSeeps, .int m_readChildren, .ref a_m_hearers, .ref a_m_chosen, .int m_chosenMany, .ref a_m_dues, .ref a_m_sights, .int m_seenMany])), (a_m_row, .inl (cI, 95, .inl h8)), (a_m_tides, .inl (cI, 12, .inl m_tides)), (a_m_seeps, .inl (cI, 18, .inl m_seeps)), (a_m_kinds, .inl (cI, 5, .inl m_kinds)), (a_m_paces, .inl (cI, 5, .inl m_paces)), (a_m_ears, .inl (cI, 5, .inl m_ears))] H locs → lv_has ls 6 [(0, .ref a_m), (1, .int p1), (2, .int v1), (3, .int x11), (4, .int x7), (5, .int x12)] → W p l e rm_X9_heardBy s m args below meth c H locs 0 0 Q (F0 m 27 ls []) := by
          intro n
          induction n with
          | zero => intro x11 x12 hF; exact (lp_no (hK013 x11 x12) hF).elim
          | succ n ih13 =>
            intro x11 x12 hF H locs ls hw hl
            replace hF := hK13 n x11 x12 hF
            refine lv_iload hx hb (dq dt_X9_heardBy 17 rfl) (lv_at hl 5 rfl) ?_
            refine lv_aload_n hx hb (dq dt_X9_heardBy 18 rfl) rfl (lv_at hl 0 rfl) ?_
            refine kGet (ci := 9) C in_X9 hw 0 rfl rfl 13 (by decide) (C.2.2.2.2.2.2.1 _ q4_108) rfl rfl (dq dt_X9_heardBy 19 rfl) ?_
            refine lv_icmp_ge (tgt := 68) hx hb (dq dt_X9_heardBy 20 rfl) (by decide) (fun c14 => ?_) (fun c14 => ?_)
            · replace hF := if_t c14 hF
              refine lv_aload_n hx hb (dq dt_X9_heardBy 38 rfl) rfl (lv_at hl 0 rfl) ?_
              refine lv_bipush (v := (57 : Int32)) hx hb (dq dt_X9_heardBy 39 rfl) (by decide) ?_
              obtain ⟨g15, hr16, hF⟩ := zc1_ hF
              refine kCallV (ws2 := [(a_m, .inr (9, [.ref a_m_row, .ref a_m_isKept, .ref a_m_text, .int m_length, .ref a_m_read, .int m_readMany, .int m_yards, .ref a_m_tides, .ref a_m_seeps, .int m_seepMany, .ref a_m_kinds, .ref a_m_paces, .ref a_m_ears, .int m_many, .int m_at, .int m_place, .int m_end, .int m_readYards, .int m_readSeeps, .int m_readChildren, .ref a_m_hearers, .ref a_m_chosen, .int m_chosenMany, .ref a_m_dues, .ref a_m_sights, .int m_seenMany])), (a_m_row, .inl (cI, 95, .inl g15)), (a_m_tides, .inl (cI, 12, .inl m_tides)), (a_m_seeps, .inl (cI, 18, .inl m_seeps)), (a_m_kinds, .inl (cI, 5, .inl m_kinds)), (a_m_paces, .inl (cI, 5, .inl m_paces)), (a_m_ears, .inl (cI, 5, .inl m_ears))]) C hw (A_X9_hour l D cB cI cJ cZ ad a_m a_m_row a_m_isKept a_m_text a_m_read a_m_tides a_m_seeps a_m_kinds a_m_paces a_m_ears a_m_hearers a_m_chosen a_m_dues a_m_sights m_length m_readMany m_yards m_seepMany m_many m_at m_place m_end m_readYards m_readSeeps m_readChildren m_chosenMany m_seenMany h8 m_tides m_seeps m_paces (57 : Int32) g15 hr16) (cwV 1 C.2.2.2.2.2.2.1 (w0_V0 q5_69 q5_66 q5_68 (ws0 38 rfl) q1_10) rfl rfl rfl kd_X9_hour ⟨Nat.le_of_ble_eq_true rfl, Nat.le_of_ble_eq_true rfl⟩) [0, 1, 2, 3, 5] rfl rfl rfl rfl 0 9 rfl rfl hl.1 rfl rfl rfl (Nat.le_of_ble_eq_true rfl) ⟨Nat.le_of_ble_eq_true rfl, Nat.le_of_ble_eq_true rfl⟩ (dq dt_X9_heardBy 40 rfl) (fun H locs hw => ?_)
              obtain ⟨v17, ev17, hF⟩ := bd_ hF
              refine lv_iinc (v := v17) (lv' := [(4, .int v17), (0, .ref a_m), (1, .int p1), (2, .int v1), (3, .int x11), (5, .int x12)]) hx hb (dq dt_X9_heardBy 41 rfl) hl (k := 4) rfl ev17.symm (by decide) rfl (fun ls hl => ?_)
              refine lv_goto (tgt := 18) hx hb (dq dt_X9_heardBy 42 rfl) (by decide) ?_
              exact ih9 x11 v17 g15 hF _ _ _ hw (lv_sub hl [1, 2, 3, 4, 0] rfl)
            · replace hF := if_f c14 hF
              refine lv_iload_n hx hb (dq dt_X9_heardBy 21 rfl) rfl (lv_at hl 3 rfl) ?_
              refine lv_aload_n hx hb (dq dt_X9_heardBy 22 rfl) rfl (lv_at hl 0 rfl) ?_
              refine lv_bipush (v := (57 : Int32)) hx hb (dq dt_X9_heardBy 23 rfl) (by decide) ?_
              refine lv_iload hx hb (dq dt_X9_heardBy 24 rfl) (lv_at hl 5 rfl) ?_
              obtain ⟨v18, hr19, hF⟩ := zc1_ hF
              refine kCallVR C hw (A_X9_hears l D cB cI cJ cZ ad a_m a_m_row a_m_isKept a_m_text a_m_read a_m_tides a_m_seeps a_m_kinds a_m_paces a_m_ears a_m_hearers a_m_chosen a_m_dues a_m_sights m_length m_readMany m_yards m_seepMany m_many m_at m_place m_end m_readYards m_readSeeps m_readChildren m_chosenMany m_seenMany h8 m_seeps m_kinds m_ears (57 : Int32) x12 v18 hr19) (cwV 2 C.2.2.2.2.2.2.1 (w0_V0 q5_45 q5_42 q5_44 (ws0 36 rfl) q1_10) rfl rfl rfl kd_X9_hears ⟨Nat.le_of_ble_eq_true rfl, Nat.le_of_ble_eq_true rfl⟩) [0, 1, 3, 4, 6] rfl rfl 0 9 rfl rfl hl.1 rfl rfl rfl (Nat.le_of_ble_eq_true rfl) ⟨Nat.le_of_ble_eq_true rfl, Nat.le_of_ble_eq_true rfl⟩ (dq dt_X9_heardBy 25 rfl) (fun H locs hw => ?_)
              refine lv_iload_n hx hb (dq dt_X9_heardBy 26 rfl) rfl (lv_at hl 1 rfl) ?_
              obtain ⟨v20, hr21, hF⟩ := zc1_ hF
              refine kCallSP C hw (A_X9_has l D cB cI cJ cZ ad v18 p1 v20 hr21) (va_cwS 2 C.2.2.2.2.2.2.1 (w0_S0 q5_52 q5_50 q5_51 q1_10) rfl rfl rfl ke_X9_has ⟨Nat.le_of_ble_eq_true rfl, Nat.le_of_ble_eq_true rfl⟩) hl.1 rfl rfl rfl (Nat.le_of_ble_eq_true rfl) ⟨Nat.le_of_ble_eq_true rfl, Nat.le_of_ble_eq_true rfl⟩ (dq dt_X9_heardBy 27 rfl) (fun H locs hw => ?_)
              obtain ⟨K23, hK23, hF⟩ := zj1_ hF
              have J23 : ∀ (y22 : Int32), K23 y22 = some (r, m_row') → ∀ (H : Heap) (locs : List Loc) (ls : Array Slot), kW D A s.heap [(a_m, .inr (9, [.ref a_m_row, .ref a_m_isKept, .ref a_m_text, .int m_length, .ref a_m_read, .int m_readMany, .int m_yards, .ref a_m_tides, .ref a_m_seeps, .int m_seepMany, .ref a_m_kinds, .ref a_m_paces, .ref a_m_ears, .int m_many, .int m_at, .int m_place, .int m_end, .int m_readYards, .int m_readSeeps, .int m_readChildren, .ref a_m_hearers, .ref a_m_chosen, .int m_chosenMany, .ref a_m_dues, .ref a_m_sights, .int m_seenMany])), (a_m_row, .inl (cI, 95, .inl h8)), (a_m_tides, .inl (cI, 12, .inl m_tides)), (a_m_seeps, .inl (cI, 18, .inl m_seeps)), (a_m_kinds, .inl (cI, 5, .inl m_kinds)), (a_m_paces, .inl (cI, 5, .inl m_paces)), (a_m_ears, .inl (cI, 5, .inl m_ears))] H locs → lv_has ls 6 [(0, .ref a_m), (1, .int p1), (2, .int v1), (4, .int x7), (5, .int x12)] → W p l e rm_X9_heardBy s m args below meth c H locs 0 0 Q (F0 m 60 ls [.int y22, .int x11]) := by
                intro y22 hF H locs ls hw hl
                replace hF := hK23 y22 hF
                refine lv_ior hx hb (dq dt_X9_heardBy 34 rfl) ?_
                obtain ⟨v24, ev24, hF⟩ := bd_ hF
                refine kNmI ev24 ?_
                refine lv_istore_n (lv' := [(3, .int v24), (0, .ref a_m), (1, .int p1), (2, .int v1), (4, .int x7), (5, .int x12)]) hx hb (dq dt_X9_heardBy 35 rfl) rfl hl (by decide) rfl (fun ls hl => ?_)
                obtain ⟨v25, ev25, hF⟩ := bd_ hF
                refine lv_iinc (v := v25) (lv' := [(5, .int v25), (3, .int v24), (0, .ref a_m), (1, .int p1), (2, .int v1), (4, .int x7)]) hx hb (dq dt_X9_heardBy 36 rfl) hl (k := 5) rfl ev25.symm (by decide) rfl (fun ls hl => ?_)
                refine lv_goto (tgt := 27) hx hb (dq dt_X9_heardBy 37 rfl) (by decide) ?_
                exact ih13 v24 v25 hF _ _ _ hw (lv_sub hl [2, 3, 4, 1, 5, 0] rfl)
              refine lv_if_eq (tgt := 59) hx hb (dq dt_X9_heardBy 28 rfl) (by decide) (fun c26 => ?_) (fun c26 => ?_)
              · replace hF := if_t c26 hF
                refine lv_iconst (v := (0 : Int32)) hx hb (dq dt_X9_heardBy 33 rfl) (by decide) ?_
                exact J23 (0 : Int32) hF _ _ _ hw (lv_sub hl [0, 1, 2, 4, 5] rfl)
              · replace hF := if_f c26 hF
                refine lv_iconst (v := (1 : Int32)) hx hb (dq dt_X9_heardBy 29 rfl) (by decide) ?_
                refine lv_iload hx hb (dq dt_X9_heardBy 30 rfl) (lv_at hl 5 rfl) ?_
                refine lv_ishl hx hb (dq dt_X9_heardBy 31 rfl) ?_
                refine lv_goto (tgt := 60) hx hb (dq dt_X9_heardBy 32 rfl) (by decide) ?_
                exact J23 ((1 : Int32) <<< (x12 &&& 31)) hF _ _ _ hw (lv_sub hl [0, 1, 2, 4, 5] rfl)
        exact L13 _ x6 (0 : Int32) hF _ _ _ hw (lv_sub hl [1, 2, 3, 4, 5, 0] rfl)
  exact L9 _ (0 : Int32) (0 : Int32) g4 hF _ _ _ hw (lv_sub hl [3, 4, 2, 1, 0] rfl)
def F_X9_layHearers (m_yards : Int32) (m_seepMany : Int32) (m_many : Int32) (m_row : Nat → Int32) (m_tides : Nat → Int32) (m_seeps : Nat → Int32) (m_kinds : Nat → Int32) (m_paces : Nat → Int32) (m_ears : Nat → Int32) (m_hearers : Nat → Int32) : Option ((Nat → Int32) × (Nat → Int32)) :=
  zl3 (fun x1 h2 h3 ag4 => if m_seepMany ≤ x1 then (some (h2, h3)) else (rd 95 h2 (6 : Int32) (fun v6 => zc1 (F_X9_has v6 x1) (fun v8 => zj2 (fun h10 y11 => if y11 = 0 then (wr 6 x1 (upd h3 (x1).toNatClampNeg (-1 : Int32)) (fun g14 => bd (x1 + (1 : Int32)) (fun v16 => ag4 v16 h10 g14))) else (zc2 (F_X9_heardBy m_yards m_seepMany m_many h10 m_tides m_seeps m_kinds m_paces m_ears x1) (fun v17 g18 => wr 6 x1 (upd h3 (x1).toNatClampNeg v17) (fun g20 => bd (x1 + (1 : Int32)) (fun v22 => ag4 v22 g18 g20))))) (fun K12 => if v8 = 0 then (zc2 (F_X9_breaksIn m_yards m_seepMany m_many h2 m_tides m_seeps m_paces x1) (fun v24 g25 => if v24 ≤ 0 then (K12 g25 (0 : Int32)) else (K12 g25 (1 : Int32)))) else (K12 h2 (0 : Int32))))))) FU (0 : Int32) m_row m_hearers
abbrev rm_X9_layHearers : Room := { frames := 5, cells := 0, slots := 0, locals := 116 }
theorem kd_X9_layHearers : yX9_layHearers.cls = RX9 ∧ yX9_layHearers.cls ≠ "java/lang/invoke/MethodHandle" ∧ yX9_layHearers.cls ≠ "java/lang/invoke/VarHandle" ∧ (parseMethodDescriptor yX9_layHearers.desc).map (fun d => d.parameters.length) = some 0 := by decide +kernel
set_option maxRecDepth 100000 in
set_option maxHeartbeats 4000000 in
theorem A_X9_layHearers (l : Launch) (D : va_G) (cB cI cJ cZ : ClassId) (ad : (Nat → Nat) × (Nat → Nat)) (a_m a_m_row a_m_isKept a_m_text a_m_read a_m_tides a_m_seeps a_m_kinds a_m_paces a_m_ears a_m_hearers a_m_chosen a_m_dues a_m_sights : Nat) (m_length : Int32) (m_readMany : Int32) (m_yards : Int32) (m_seepMany : Int32) (m_many : Int32) (m_at : Int32) (m_place : Int32) (m_end : Int32) (m_readYards : Int32) (m_readSeeps : Int32) (m_readChildren : Int32) (m_chosenMany : Int32) (m_seenMany : Int32) (m_row : Nat → Int32) (m_tides : Nat → Int32) (m_seeps : Nat → Int32) (m_kinds : Nat → Int32) (m_paces : Nat → Int32) (m_ears : Nat → Int32) (m_hearers : Nat → Int32) (m_row' : Nat → Int32) (m_hearers' : Nat → Int32) (hF : F_X9_layHearers m_yards m_seepMany m_many m_row m_tides m_seeps m_kinds m_paces m_ears m_hearers = some (m_row', m_hearers')) : kM l yX9_layHearers (Cond.code yX9_layHearers cX9_layHearers 3 (none) :: W0) rm_X9_layHearers D (kT cB cI cJ cZ) ad [.ref a_m] [(a_m, .inr (9, [.ref a_m_row, .ref a_m_isKept, .ref a_m_text, .int m_length, .ref a_m_read, .int m_readMany, .int m_yards, .ref a_m_tides, .ref a_m_seeps, .int m_seepMany, .ref a_m_kinds, .ref a_m_paces, .ref a_m_ears, .int m_many, .int m_at, .int m_place, .int m_end, .int m_readYards, .int m_readSeeps, .int m_readChildren, .ref a_m_hearers, .ref a_m_chosen, .int m_chosenMany, .ref a_m_dues, .ref a_m_sights, .int m_seenMany])), (a_m_row, .inl (cI, 95, .inl m_row)), (a_m_tides, .inl (cI, 12, .inl m_tides)), (a_m_seeps, .inl (cI, 18, .inl m_seeps)), (a_m_kinds, .inl (cI, 5, .inl m_kinds)), (a_m_paces, .inl (cI, 5, .inl m_paces)), (a_m_ears, .inl (cI, 5, .inl m_ears)), (a_m_hearers, .inl (cI, 6, .inl m_hearers))] none [(a_m, .inr (9, [.ref a_m_row, .ref a_m_isKept, .ref a_m_text, .int m_length, .ref a_m_read, .int m_readMany, .int m_yards, .ref a_m_tides, .ref a_m_seeps, .int m_seepMany, .ref a_m_kinds, .ref a_m_paces, .ref a_m_ears, .int m_many, .int m_at, .int m_place, .int m_end, .int m_readYards, .int m_readSeeps, .int m_readChildren, .ref a_m_hearers, .ref a_m_chosen, .int m_chosenMany, .ref a_m_dues, .ref a_m_sights, .int m_seenMany])), (a_m_row, .inl (cI, 95, .inl (m_row'))), (a_m_tides, .inl (cI, 12, .inl m_tides)), (a_m_seeps, .inl (cI, 18, .inl m_seeps)), (a_m_kinds, .inl (cI, 5, .inl m_kinds)), (a_m_paces, .inl (cI, 5, .inl m_paces)), (a_m_ears, .inl (cI, 5, .inl m_ears)), (a_m_hearers, .inl (cI, 6, .inl (m_hearers')))] := by
  unfold F_X9_layHearers at hF
  refine kStart (lv := [(0, .ref a_m)]) (own := "DikeWatchModel") (plainFor_of_name (by decide)) rfl (Nat.le_of_ble_eq_true rfl) rfl ?_
  intro p e s m args below meth c A Q ls hQ C hx hb hw hl
  refine lv_iconst (v := (0 : Int32)) hx hb (dq dt_X9_layHearers 0 rfl) (by decide) ?_
  refine lv_istore_n (lv' := [(1, .int (0 : Int32)), (0, .ref a_m)]) hx hb (dq dt_X9_layHearers 1 rfl) rfl hl (by decide) rfl (fun ls hl => ?_)
  obtain ⟨K4, hK04, hK4, hF⟩ := zl3_ hF
  have L4 : ∀ (n : Nat) (x1 : Int32) (h2 : Nat → Int32) (h3 : Nat → Int32), K4 n x1 h2 h3 = some (m_row', m_hearers') → ∀ (H : Heap) (locs : List Loc) (ls : Array Slot), kW D A s.heap [(a_m, .inr (9, [.ref a_m_row, .ref a_m_isKept, .ref a_m_text, .int m_length, .ref a_m_read, .int m_readMany, .int m_yards, .ref a_m_tides, .ref a_m_seeps, .int m_seepMany, .ref a_m_kinds, .ref a_m_paces, .ref a_m_ears, .int m_many, .int m_at, .int m_place, .int m_end, .int m_readYards, .int m_readSeeps, .int m_readChildren, .ref a_m_hearers, .ref a_m_chosen, .int m_chosenMany, .ref a_m_dues, .ref a_m_sights, .int m_seenMany])), (a_m_row, .inl (cI, 95, .inl h2)), (a_m_tides, .inl (cI, 12, .inl m_tides)), (a_m_seeps, .inl (cI, 18, .inl m_seeps)), (a_m_kinds, .inl (cI, 5, .inl m_kinds)), (a_m_paces, .inl (cI, 5, .inl m_paces)), (a_m_ears, .inl (cI, 5, .inl m_ears)), (a_m_hearers, .inl (cI, 6, .inl h3))] H locs → lv_has ls 3 [(0, .ref a_m), (1, .int x1)] → W p l e rm_X9_layHearers s m args below meth c H locs 0 0 Q (F0 m 2 ls []) := by
    intro n
    induction n with
    | zero => intro x1 h2 h3 hF; exact (lp_no (hK04 x1 h2 h3) hF).elim
    | succ n ih4 =>
      intro x1 h2 h3 hF H locs ls hw hl
      replace hF := hK4 n x1 h2 h3 hF
      refine lv_iload_n hx hb (dq dt_X9_layHearers 2 rfl) rfl (lv_at hl 1 rfl) ?_
      refine lv_aload_n hx hb (dq dt_X9_layHearers 3 rfl) rfl (lv_at hl 0 rfl) ?_
      refine kGet (ci := 9) C in_X9 hw 0 rfl rfl 9 (by decide) (C.2.2.2.2.2.2.1 _ q4_104) rfl rfl (dq dt_X9_layHearers 4 rfl) ?_
      refine lv_icmp_ge (tgt := 63) hx hb (dq dt_X9_layHearers 5 rfl) (by decide) (fun c5 => ?_) (fun c5 => ?_)
      · replace hF := if_t c5 hF
        cases hF
        exact kRetV hQ C hw (dq dt_X9_layHearers 34 rfl)
      · replace hF := if_f c5 hF
        refine lv_aload_n hx hb (dq dt_X9_layHearers 6 rfl) rfl (lv_at hl 0 rfl) ?_
        refine kGet (ci := 9) C in_X9 hw 0 rfl rfl 0 (by decide) (C.2.2.2.2.2.2.1 _ q4_95) rfl rfl (dq dt_X9_layHearers 7 rfl) ?_
        refine lv_bipush (v := (6 : Int32)) hx hb (dq dt_X9_layHearers 8 rfl) (by decide) ?_
        obtain ⟨v6, ev6, hi7, hF⟩ := rd_ hF
        refine kIald C hw 1 1 rfl rfl hi7 ev6 (dq dt_X9_layHearers 9 rfl) ?_
        refine lv_iload_n hx hb (dq dt_X9_layHearers 10 rfl) rfl (lv_at hl 1 rfl) ?_
        obtain ⟨v8, hr9, hF⟩ := zc1_ hF
        refine kCallSP C hw (A_X9_has l D cB cI cJ cZ ad v6 x1 v8 hr9) (va_cwS 2 C.2.2.2.2.2.2.1 (w0_S0 q5_52 q5_50 q5_51 q1_10) rfl rfl rfl ke_X9_has ⟨Nat.le_of_ble_eq_true rfl, Nat.le_of_ble_eq_true rfl⟩) hl.1 rfl rfl rfl (Nat.le_of_ble_eq_true rfl) ⟨Nat.le_of_ble_eq_true rfl, Nat.le_of_ble_eq_true rfl⟩ (dq dt_X9_layHearers 11 rfl) (fun H locs hw => ?_)
        obtain ⟨K12, hK12, hF⟩ := zj2_ hF
        have J12 : ∀ (h10 : Nat → Int32) (y11 : Int32), K12 h10 y11 = some (m_row', m_hearers') → ∀ (H : Heap) (locs : List Loc) (ls : Array Slot), kW D A s.heap [(a_m, .inr (9, [.ref a_m_row, .ref a_m_isKept, .ref a_m_text, .int m_length, .ref a_m_read, .int m_readMany, .int m_yards, .ref a_m_tides, .ref a_m_seeps, .int m_seepMany, .ref a_m_kinds, .ref a_m_paces, .ref a_m_ears, .int m_many, .int m_at, .int m_place, .int m_end, .int m_readYards, .int m_readSeeps, .int m_readChildren, .ref a_m_hearers, .ref a_m_chosen, .int m_chosenMany, .ref a_m_dues, .ref a_m_sights, .int m_seenMany])), (a_m_row, .inl (cI, 95, .inl h10)), (a_m_tides, .inl (cI, 12, .inl m_tides)), (a_m_seeps, .inl (cI, 18, .inl m_seeps)), (a_m_kinds, .inl (cI, 5, .inl m_kinds)), (a_m_paces, .inl (cI, 5, .inl m_paces)), (a_m_ears, .inl (cI, 5, .inl m_ears)), (a_m_hearers, .inl (cI, 6, .inl h3))] H locs → lv_has ls 3 [(0, .ref a_m), (1, .int x1)] → W p l e rm_X9_layHearers s m args below meth c H locs 0 0 Q (F0 m 37 ls [.int y11]) := by
          intro h10 y11 hF H locs ls hw hl
          replace hF := hK12 h10 y11 hF
          refine lv_istore_n (lv' := [(2, .int y11), (0, .ref a_m), (1, .int x1)]) hx hb (dq dt_X9_layHearers 20 rfl) rfl hl (by decide) rfl (fun ls hl => ?_)
          refine lv_aload_n hx hb (dq dt_X9_layHearers 21 rfl) rfl (lv_at hl 1 rfl) ?_
          refine kGet (ci := 9) C in_X9 hw 0 rfl rfl 20 (by decide) (C.2.2.2.2.2.2.1 _ q4_115) rfl rfl (dq dt_X9_layHearers 22 rfl) ?_
          refine lv_iload_n hx hb (dq dt_X9_layHearers 23 rfl) rfl (lv_at hl 2 rfl) ?_
          refine lv_iload_n hx hb (dq dt_X9_layHearers 24 rfl) rfl (lv_at hl 0 rfl) ?_
          refine lv_if_eq (tgt := 55) hx hb (dq dt_X9_layHearers 25 rfl) (by decide) (fun c13 => ?_) (fun c13 => ?_)
          · replace hF := if_t c13 hF
            refine lv_iconst (v := (-1 : Int32)) hx hb (dq dt_X9_layHearers 30 rfl) (by decide) ?_
            obtain ⟨g14, eg14, hi15, hF⟩ := wr_ hF
            refine kIast (ws' := [(a_m, .inr (9, [.ref a_m_row, .ref a_m_isKept, .ref a_m_text, .int m_length, .ref a_m_read, .int m_readMany, .int m_yards, .ref a_m_tides, .ref a_m_seeps, .int m_seepMany, .ref a_m_kinds, .ref a_m_paces, .ref a_m_ears, .int m_many, .int m_at, .int m_place, .int m_end, .int m_readYards, .int m_readSeeps, .int m_readChildren, .ref a_m_hearers, .ref a_m_chosen, .int m_chosenMany, .ref a_m_dues, .ref a_m_sights, .int m_seenMany])), (a_m_row, .inl (cI, 95, .inl h10)), (a_m_tides, .inl (cI, 12, .inl m_tides)), (a_m_seeps, .inl (cI, 18, .inl m_seeps)), (a_m_kinds, .inl (cI, 5, .inl m_kinds)), (a_m_paces, .inl (cI, 5, .inl m_paces)), (a_m_ears, .inl (cI, 5, .inl m_ears)), (a_m_hearers, .inl (cI, 6, .inl g14))]) C hw 7 1 rfl rfl hi15 eg14 rfl (dq dt_X9_layHearers 31 rfl) (fun H locs hw => ?_)
            obtain ⟨v16, ev16, hF⟩ := bd_ hF
            refine lv_iinc (v := v16) (lv' := [(1, .int v16), (2, .int y11), (0, .ref a_m)]) hx hb (dq dt_X9_layHearers 32 rfl) hl (k := 2) rfl ev16.symm (by decide) rfl (fun ls hl => ?_)
            refine lv_goto (tgt := 2) hx hb (dq dt_X9_layHearers 33 rfl) (by decide) ?_
            exact ih4 v16 h10 g14 hF _ _ _ hw (lv_sub hl [2, 0] rfl)
          · replace hF := if_f c13 hF
            refine lv_aload_n hx hb (dq dt_X9_layHearers 26 rfl) rfl (lv_at hl 1 rfl) ?_
            refine lv_iload_n hx hb (dq dt_X9_layHearers 27 rfl) rfl (lv_at hl 2 rfl) ?_
            obtain ⟨v17, g18, hr19, hF⟩ := zc2_ hF
            refine kCallV (ws2 := [(a_m, .inr (9, [.ref a_m_row, .ref a_m_isKept, .ref a_m_text, .int m_length, .ref a_m_read, .int m_readMany, .int m_yards, .ref a_m_tides, .ref a_m_seeps, .int m_seepMany, .ref a_m_kinds, .ref a_m_paces, .ref a_m_ears, .int m_many, .int m_at, .int m_place, .int m_end, .int m_readYards, .int m_readSeeps, .int m_readChildren, .ref a_m_hearers, .ref a_m_chosen, .int m_chosenMany, .ref a_m_dues, .ref a_m_sights, .int m_seenMany])), (a_m_row, .inl (cI, 95, .inl g18)), (a_m_tides, .inl (cI, 12, .inl m_tides)), (a_m_seeps, .inl (cI, 18, .inl m_seeps)), (a_m_kinds, .inl (cI, 5, .inl m_kinds)), (a_m_paces, .inl (cI, 5, .inl m_paces)), (a_m_ears, .inl (cI, 5, .inl m_ears)), (a_m_hearers, .inl (cI, 6, .inl h3))]) C hw (A_X9_heardBy l D cB cI cJ cZ ad a_m a_m_row a_m_isKept a_m_text a_m_read a_m_tides a_m_seeps a_m_kinds a_m_paces a_m_ears a_m_hearers a_m_chosen a_m_dues a_m_sights m_length m_readMany m_yards m_seepMany m_many m_at m_place m_end m_readYards m_readSeeps m_readChildren m_chosenMany m_seenMany h10 m_tides m_seeps m_kinds m_paces m_ears x1 v17 g18 hr19) (cwV 1 C.2.2.2.2.2.2.1 (w0_V0 q5_114 q5_111 q5_113 (ws0 43 rfl) q1_10) rfl rfl rfl kd_X9_heardBy ⟨Nat.le_of_ble_eq_true rfl, Nat.le_of_ble_eq_true rfl⟩) [0, 1, 2, 3, 4, 5, 6] rfl rfl rfl rfl 0 9 rfl rfl hl.1 rfl rfl rfl (Nat.le_of_ble_eq_true rfl) ⟨Nat.le_of_ble_eq_true rfl, Nat.le_of_ble_eq_true rfl⟩ (dq dt_X9_layHearers 28 rfl) (fun H locs hw => ?_)
            refine lv_goto (tgt := 56) hx hb (dq dt_X9_layHearers 29 rfl) (by decide) ?_
            obtain ⟨g20, eg20, hi21, hF⟩ := wr_ hF
            refine kIast (ws' := [(a_m, .inr (9, [.ref a_m_row, .ref a_m_isKept, .ref a_m_text, .int m_length, .ref a_m_read, .int m_readMany, .int m_yards, .ref a_m_tides, .ref a_m_seeps, .int m_seepMany, .ref a_m_kinds, .ref a_m_paces, .ref a_m_ears, .int m_many, .int m_at, .int m_place, .int m_end, .int m_readYards, .int m_readSeeps, .int m_readChildren, .ref a_m_hearers, .ref a_m_chosen, .int m_chosenMany, .ref a_m_dues, .ref a_m_sights, .int m_seenMany])), (a_m_row, .inl (cI, 95, .inl g18)), (a_m_tides, .inl (cI, 12, .inl m_tides)), (a_m_seeps, .inl (cI, 18, .inl m_seeps)), (a_m_kinds, .inl (cI, 5, .inl m_kinds)), (a_m_paces, .inl (cI, 5, .inl m_paces)), (a_m_ears, .inl (cI, 5, .inl m_ears)), (a_m_hearers, .inl (cI, 6, .inl g20))]) C hw 7 1 rfl rfl hi21 eg20 rfl (dq dt_X9_layHearers 31 rfl) (fun H locs hw => ?_)
            obtain ⟨v22, ev22, hF⟩ := bd_ hF
            refine lv_iinc (v := v22) (lv' := [(1, .int v22), (2, .int y11), (0, .ref a_m)]) hx hb (dq dt_X9_layHearers 32 rfl) hl (k := 2) rfl ev22.symm (by decide) rfl (fun ls hl => ?_)
            refine lv_goto (tgt := 2) hx hb (dq dt_X9_layHearers 33 rfl) (by decide) ?_
            exact ih4 v22 g18 g20 hF _ _ _ hw (lv_sub hl [2, 0] rfl)
        refine lv_if_ne (tgt := 36) hx hb (dq dt_X9_layHearers 12 rfl) (by decide) (fun c23 => ?_) (fun c23 => ?_)
        · replace hF := if_f c23 hF
          refine lv_iconst (v := (0 : Int32)) hx hb (dq dt_X9_layHearers 19 rfl) (by decide) ?_
          exact J12 h2 (0 : Int32) hF _ _ _ hw (lv_sub hl [0, 1] rfl)
        · replace hF := if_t c23 hF
          refine lv_aload_n hx hb (dq dt_X9_layHearers 13 rfl) rfl (lv_at hl 0 rfl) ?_
          refine lv_iload_n hx hb (dq dt_X9_layHearers 14 rfl) rfl (lv_at hl 1 rfl) ?_
          obtain ⟨v24, g25, hr26, hF⟩ := zc2_ hF
          refine kCallV (ws2 := [(a_m, .inr (9, [.ref a_m_row, .ref a_m_isKept, .ref a_m_text, .int m_length, .ref a_m_read, .int m_readMany, .int m_yards, .ref a_m_tides, .ref a_m_seeps, .int m_seepMany, .ref a_m_kinds, .ref a_m_paces, .ref a_m_ears, .int m_many, .int m_at, .int m_place, .int m_end, .int m_readYards, .int m_readSeeps, .int m_readChildren, .ref a_m_hearers, .ref a_m_chosen, .int m_chosenMany, .ref a_m_dues, .ref a_m_sights, .int m_seenMany])), (a_m_row, .inl (cI, 95, .inl g25)), (a_m_tides, .inl (cI, 12, .inl m_tides)), (a_m_seeps, .inl (cI, 18, .inl m_seeps)), (a_m_kinds, .inl (cI, 5, .inl m_kinds)), (a_m_paces, .inl (cI, 5, .inl m_paces)), (a_m_ears, .inl (cI, 5, .inl m_ears)), (a_m_hearers, .inl (cI, 6, .inl h3))]) C hw (A_X9_breaksIn l D cB cI cJ cZ ad a_m a_m_row a_m_isKept a_m_text a_m_read a_m_tides a_m_seeps a_m_kinds a_m_paces a_m_ears a_m_hearers a_m_chosen a_m_dues a_m_sights m_length m_readMany m_yards m_seepMany m_many m_at m_place m_end m_readYards m_readSeeps m_readChildren m_chosenMany m_seenMany h2 m_tides m_seeps m_paces x1 v24 g25 hr26) (cwV 1 C.2.2.2.2.2.2.1 (w0_V0 q5_102 q5_99 q5_101 (ws0 41 rfl) q1_10) rfl rfl rfl kd_X9_breaksIn ⟨Nat.le_of_ble_eq_true rfl, Nat.le_of_ble_eq_true rfl⟩) [0, 1, 2, 3, 5] rfl rfl rfl rfl 0 9 rfl rfl hl.1 rfl rfl rfl (Nat.le_of_ble_eq_true rfl) ⟨Nat.le_of_ble_eq_true rfl, Nat.le_of_ble_eq_true rfl⟩ (dq dt_X9_layHearers 15 rfl) (fun H locs hw => ?_)
          refine lv_if_le (tgt := 36) hx hb (dq dt_X9_layHearers 16 rfl) (by decide) (fun c27 => ?_) (fun c27 => ?_)
          · replace hF := if_t c27 hF
            refine lv_iconst (v := (0 : Int32)) hx hb (dq dt_X9_layHearers 19 rfl) (by decide) ?_
            exact J12 g25 (0 : Int32) hF _ _ _ hw (lv_sub hl [0, 1] rfl)
          · replace hF := if_f c27 hF
            refine lv_iconst (v := (1 : Int32)) hx hb (dq dt_X9_layHearers 17 rfl) (by decide) ?_
            refine lv_goto (tgt := 37) hx hb (dq dt_X9_layHearers 18 rfl) (by decide) ?_
            exact J12 g25 (1 : Int32) hF _ _ _ hw (lv_sub hl [0, 1] rfl)
  exact L4 _ (0 : Int32) m_row m_hearers hF _ _ _ hw (lv_sub hl [1, 0] rfl)
def F_X9_missedBy (m_seepMany : Int32) (m_hearers : Nat → Int32) (p1 : Int32) : Option (Int32) :=
  zl2 (fun x1 x2 ag3 => if m_seepMany ≤ x2 then (some x1) else (rd 6 m_hearers x2 (fun v5 => zj1 (fun y7 => bd (x1 ||| y7) (fun v9 => bd (x2 + (1 : Int32)) (fun v10 => ag3 v9 v10))) (fun K8 => if v5 = (-1 : Int32) then (K8 (0 : Int32)) else (rd 6 m_hearers x2 (fun v12 => if (v12 &&& p1) = 0 then (K8 ((1 : Int32) <<< (x2 &&& 31))) else (K8 (0 : Int32)))))))) FU (0 : Int32) (0 : Int32)
abbrev rm_X9_missedBy : Room := { frames := 0, cells := 0, slots := 0, locals := 0 }
theorem kd_X9_missedBy : yX9_missedBy.cls = RX9 ∧ yX9_missedBy.cls ≠ "java/lang/invoke/MethodHandle" ∧ yX9_missedBy.cls ≠ "java/lang/invoke/VarHandle" ∧ (parseMethodDescriptor yX9_missedBy.desc).map (fun d => d.parameters.length) = some 1 := by decide +kernel
set_option maxRecDepth 100000 in
set_option maxHeartbeats 4000000 in
theorem A_X9_missedBy (l : Launch) (D : va_G) (cB cI cJ cZ : ClassId) (ad : (Nat → Nat) × (Nat → Nat)) (a_m a_m_row a_m_isKept a_m_text a_m_read a_m_tides a_m_seeps a_m_kinds a_m_paces a_m_ears a_m_hearers a_m_chosen a_m_dues a_m_sights : Nat) (m_length : Int32) (m_readMany : Int32) (m_yards : Int32) (m_seepMany : Int32) (m_many : Int32) (m_at : Int32) (m_place : Int32) (m_end : Int32) (m_readYards : Int32) (m_readSeeps : Int32) (m_readChildren : Int32) (m_chosenMany : Int32) (m_seenMany : Int32) (m_hearers : Nat → Int32) (p1 : Int32) (r : Int32) (hF : F_X9_missedBy m_seepMany m_hearers p1 = some r) : kM l yX9_missedBy (Cond.code yX9_missedBy cX9_missedBy 4 (some .int) :: W0) rm_X9_missedBy D (kT cB cI cJ cZ) ad [.ref a_m, .int p1] [(a_m, .inr (9, [.ref a_m_row, .ref a_m_isKept, .ref a_m_text, .int m_length, .ref a_m_read, .int m_readMany, .int m_yards, .ref a_m_tides, .ref a_m_seeps, .int m_seepMany, .ref a_m_kinds, .ref a_m_paces, .ref a_m_ears, .int m_many, .int m_at, .int m_place, .int m_end, .int m_readYards, .int m_readSeeps, .int m_readChildren, .ref a_m_hearers, .ref a_m_chosen, .int m_chosenMany, .ref a_m_dues, .ref a_m_sights, .int m_seenMany])), (a_m_hearers, .inl (cI, 6, .inl m_hearers))] (some (.int r)) [(a_m, .inr (9, [.ref a_m_row, .ref a_m_isKept, .ref a_m_text, .int m_length, .ref a_m_read, .int m_readMany, .int m_yards, .ref a_m_tides, .ref a_m_seeps, .int m_seepMany, .ref a_m_kinds, .ref a_m_paces, .ref a_m_ears, .int m_many, .int m_at, .int m_place, .int m_end, .int m_readYards, .int m_readSeeps, .int m_readChildren, .ref a_m_hearers, .ref a_m_chosen, .int m_chosenMany, .ref a_m_dues, .ref a_m_sights, .int m_seenMany])), (a_m_hearers, .inl (cI, 6, .inl m_hearers))] := by
  unfold F_X9_missedBy at hF
  refine kStart (lv := [(0, .ref a_m), (1, .int p1)]) (own := "DikeWatchModel") (plainFor_of_name (by decide)) rfl (Nat.le_of_ble_eq_true rfl) rfl ?_
  intro p e s m args below meth c A Q ls hQ C hx hb hw hl
  refine lv_iconst (v := (0 : Int32)) hx hb (dq dt_X9_missedBy 0 rfl) (by decide) ?_
  refine lv_istore_n (lv' := [(2, .int (0 : Int32)), (0, .ref a_m), (1, .int p1)]) hx hb (dq dt_X9_missedBy 1 rfl) rfl hl (by decide) rfl (fun ls hl => ?_)
  refine lv_iconst (v := (0 : Int32)) hx hb (dq dt_X9_missedBy 2 rfl) (by decide) ?_
  refine lv_istore_n (lv' := [(3, .int (0 : Int32)), (2, .int (0 : Int32)), (0, .ref a_m), (1, .int p1)]) hx hb (dq dt_X9_missedBy 3 rfl) rfl hl (by decide) rfl (fun ls hl => ?_)
  obtain ⟨K3, hK03, hK3, hF⟩ := zl2_ hF
  have L3 : ∀ (n : Nat) (x1 : Int32) (x2 : Int32), K3 n x1 x2 = some r → ∀ (H : Heap) (locs : List Loc) (ls : Array Slot), kW D A s.heap [(a_m, .inr (9, [.ref a_m_row, .ref a_m_isKept, .ref a_m_text, .int m_length, .ref a_m_read, .int m_readMany, .int m_yards, .ref a_m_tides, .ref a_m_seeps, .int m_seepMany, .ref a_m_kinds, .ref a_m_paces, .ref a_m_ears, .int m_many, .int m_at, .int m_place, .int m_end, .int m_readYards, .int m_readSeeps, .int m_readChildren, .ref a_m_hearers, .ref a_m_chosen, .int m_chosenMany, .ref a_m_dues, .ref a_m_sights, .int m_seenMany])), (a_m_hearers, .inl (cI, 6, .inl m_hearers))] H locs → lv_has ls 4 [(0, .ref a_m), (1, .int p1), (2, .int x1), (3, .int x2)] → W p l e rm_X9_missedBy s m args below meth c H locs 0 0 Q (F0 m 4 ls []) := by
    intro n
    induction n with
    | zero => intro x1 x2 hF; exact (lp_no (hK03 x1 x2) hF).elim
    | succ n ih3 =>
      intro x1 x2 hF H locs ls hw hl
      replace hF := hK3 n x1 x2 hF
      refine lv_iload_n hx hb (dq dt_X9_missedBy 4 rfl) rfl (lv_at hl 3 rfl) ?_
      refine lv_aload_n hx hb (dq dt_X9_missedBy 5 rfl) rfl (lv_at hl 0 rfl) ?_
      refine kGet (ci := 9) C in_X9 hw 0 rfl rfl 9 (by decide) (C.2.2.2.2.2.2.1 _ q4_104) rfl rfl (dq dt_X9_missedBy 6 rfl) ?_
      refine lv_icmp_ge (tgt := 49) hx hb (dq dt_X9_missedBy 7 rfl) (by decide) (fun c4 => ?_) (fun c4 => ?_)
      · replace hF := if_t c4 hF
        refine lv_iload_n hx hb (dq dt_X9_missedBy 31 rfl) rfl (lv_at hl 2 rfl) ?_
        cases hF
        exact kRetI hQ C hw (dq dt_X9_missedBy 32 rfl)
      · replace hF := if_f c4 hF
        refine lv_iload_n hx hb (dq dt_X9_missedBy 8 rfl) rfl (lv_at hl 2 rfl) ?_
        refine lv_aload_n hx hb (dq dt_X9_missedBy 9 rfl) rfl (lv_at hl 0 rfl) ?_
        refine kGet (ci := 9) C in_X9 hw 0 rfl rfl 20 (by decide) (C.2.2.2.2.2.2.1 _ q4_115) rfl rfl (dq dt_X9_missedBy 10 rfl) ?_
        refine lv_iload_n hx hb (dq dt_X9_missedBy 11 rfl) rfl (lv_at hl 3 rfl) ?_
        obtain ⟨v5, ev5, hi6, hF⟩ := rd_ hF
        refine kIald C hw 1 1 rfl rfl hi6 ev5 (dq dt_X9_missedBy 12 rfl) ?_
        refine lv_iconst (v := (-1 : Int32)) hx hb (dq dt_X9_missedBy 13 rfl) (by decide) ?_
        obtain ⟨K8, hK8, hF⟩ := zj1_ hF
        have J8 : ∀ (y7 : Int32), K8 y7 = some r → ∀ (H : Heap) (locs : List Loc) (ls : Array Slot), kW D A s.heap [(a_m, .inr (9, [.ref a_m_row, .ref a_m_isKept, .ref a_m_text, .int m_length, .ref a_m_read, .int m_readMany, .int m_yards, .ref a_m_tides, .ref a_m_seeps, .int m_seepMany, .ref a_m_kinds, .ref a_m_paces, .ref a_m_ears, .int m_many, .int m_at, .int m_place, .int m_end, .int m_readYards, .int m_readSeeps, .int m_readChildren, .ref a_m_hearers, .ref a_m_chosen, .int m_chosenMany, .ref a_m_dues, .ref a_m_sights, .int m_seenMany])), (a_m_hearers, .inl (cI, 6, .inl m_hearers))] H locs → lv_has ls 4 [(0, .ref a_m), (1, .int p1), (3, .int x2)] → W p l e rm_X9_missedBy s m args below meth c H locs 0 0 Q (F0 m 41 ls [.int y7, .int x1]) := by
          intro y7 hF H locs ls hw hl
          replace hF := hK8 y7 hF
          refine lv_ior hx hb (dq dt_X9_missedBy 27 rfl) ?_
          obtain ⟨v9, ev9, hF⟩ := bd_ hF
          refine kNmI ev9 ?_
          refine lv_istore_n (lv' := [(2, .int v9), (0, .ref a_m), (1, .int p1), (3, .int x2)]) hx hb (dq dt_X9_missedBy 28 rfl) rfl hl (by decide) rfl (fun ls hl => ?_)
          obtain ⟨v10, ev10, hF⟩ := bd_ hF
          refine lv_iinc (v := v10) (lv' := [(3, .int v10), (2, .int v9), (0, .ref a_m), (1, .int p1)]) hx hb (dq dt_X9_missedBy 29 rfl) hl (k := 3) rfl ev10.symm (by decide) rfl (fun ls hl => ?_)
          refine lv_goto (tgt := 4) hx hb (dq dt_X9_missedBy 30 rfl) (by decide) ?_
          exact ih3 v9 v10 hF _ _ _ hw (lv_sub hl [2, 3, 1, 0] rfl)
        refine lv_icmp_eq (tgt := 40) hx hb (dq dt_X9_missedBy 14 rfl) (by decide) (fun c11 => ?_) (fun c11 => ?_)
        · replace hF := if_t c11 hF
          refine lv_iconst (v := (0 : Int32)) hx hb (dq dt_X9_missedBy 26 rfl) (by decide) ?_
          exact J8 (0 : Int32) hF _ _ _ hw (lv_sub hl [0, 1, 3] rfl)
        · replace hF := if_f c11 hF
          refine lv_aload_n hx hb (dq dt_X9_missedBy 15 rfl) rfl (lv_at hl 0 rfl) ?_
          refine kGet (ci := 9) C in_X9 hw 0 rfl rfl 20 (by decide) (C.2.2.2.2.2.2.1 _ q4_115) rfl rfl (dq dt_X9_missedBy 16 rfl) ?_
          refine lv_iload_n hx hb (dq dt_X9_missedBy 17 rfl) rfl (lv_at hl 3 rfl) ?_
          obtain ⟨v12, ev12, hi13, hF⟩ := rd_ hF
          refine kIald C hw 1 1 rfl rfl hi13 ev12 (dq dt_X9_missedBy 18 rfl) ?_
          refine lv_iload_n hx hb (dq dt_X9_missedBy 19 rfl) rfl (lv_at hl 1 rfl) ?_
          refine lv_iand hx hb (dq dt_X9_missedBy 20 rfl) ?_
          refine lv_if_ne (tgt := 40) hx hb (dq dt_X9_missedBy 21 rfl) (by decide) (fun c14 => ?_) (fun c14 => ?_)
          · replace hF := if_f c14 hF
            refine lv_iconst (v := (0 : Int32)) hx hb (dq dt_X9_missedBy 26 rfl) (by decide) ?_
            exact J8 (0 : Int32) hF _ _ _ hw (lv_sub hl [0, 1, 3] rfl)
          · replace hF := if_t c14 hF
            refine lv_iconst (v := (1 : Int32)) hx hb (dq dt_X9_missedBy 22 rfl) (by decide) ?_
            refine lv_iload_n hx hb (dq dt_X9_missedBy 23 rfl) rfl (lv_at hl 3 rfl) ?_
            refine lv_ishl hx hb (dq dt_X9_missedBy 24 rfl) ?_
            refine lv_goto (tgt := 41) hx hb (dq dt_X9_missedBy 25 rfl) (by decide) ?_
            exact J8 ((1 : Int32) <<< (x2 &&& 31)) hF _ _ _ hw (lv_sub hl [0, 1, 3] rfl)
  exact L3 _ (0 : Int32) (0 : Int32) hF _ _ _ hw (lv_sub hl [2, 3, 1, 0] rfl)
def F_X9_missed (m_yards : Int32) (m_seepMany : Int32) (m_many : Int32) (m_row : Nat → Int32) (m_tides : Nat → Int32) (m_seeps : Nat → Int32) (m_kinds : Nat → Int32) (m_paces : Nat → Int32) (m_ears : Nat → Int32) (m_hearers : Nat → Int32) (p1 : Int32) : Option (Int32 × (Nat → Int32) × (Nat → Int32)) :=
  bd ((((1 : Int32) <<< (m_many &&& 31)) - (1 : Int32)).toInt64) (fun v1 => zc1 (F_X9_in (p1.toInt64) (0 : Int64) v1) (fun v2 => if v2 = 0 then (some ((-2 : Int32), m_row, m_hearers)) else (zc2 (F_X9_layHearers m_yards m_seepMany m_many m_row m_tides m_seeps m_kinds m_paces m_ears m_hearers) (fun g5 g6 => zc1 (F_X9_missedBy m_seepMany g6 p1) (fun v8 => some (v8, g5, g6))))))
abbrev rm_X9_missed : Room := { frames := 6, cells := 0, slots := 0, locals := 138 }
theorem kd_X9_missed : yX9_missed.cls = RX9 ∧ yX9_missed.cls ≠ "java/lang/invoke/MethodHandle" ∧ yX9_missed.cls ≠ "java/lang/invoke/VarHandle" ∧ (parseMethodDescriptor yX9_missed.desc).map (fun d => d.parameters.length) = some 1 := by decide +kernel
set_option maxRecDepth 100000 in
set_option maxHeartbeats 4000000 in
theorem A_X9_missed (l : Launch) (D : va_G) (cB cI cJ cZ : ClassId) (ad : (Nat → Nat) × (Nat → Nat)) (a_m a_m_row a_m_isKept a_m_text a_m_read a_m_tides a_m_seeps a_m_kinds a_m_paces a_m_ears a_m_hearers a_m_chosen a_m_dues a_m_sights : Nat) (m_length : Int32) (m_readMany : Int32) (m_yards : Int32) (m_seepMany : Int32) (m_many : Int32) (m_at : Int32) (m_place : Int32) (m_end : Int32) (m_readYards : Int32) (m_readSeeps : Int32) (m_readChildren : Int32) (m_chosenMany : Int32) (m_seenMany : Int32) (m_row : Nat → Int32) (m_tides : Nat → Int32) (m_seeps : Nat → Int32) (m_kinds : Nat → Int32) (m_paces : Nat → Int32) (m_ears : Nat → Int32) (m_hearers : Nat → Int32) (p1 : Int32) (r : Int32) (m_row' : Nat → Int32) (m_hearers' : Nat → Int32) (hF : F_X9_missed m_yards m_seepMany m_many m_row m_tides m_seeps m_kinds m_paces m_ears m_hearers p1 = some (r, m_row', m_hearers')) : kM l yX9_missed (Cond.code yX9_missed cX9_missed 2 (some .int) :: W0) rm_X9_missed D (kT cB cI cJ cZ) ad [.ref a_m, .int p1] [(a_m, .inr (9, [.ref a_m_row, .ref a_m_isKept, .ref a_m_text, .int m_length, .ref a_m_read, .int m_readMany, .int m_yards, .ref a_m_tides, .ref a_m_seeps, .int m_seepMany, .ref a_m_kinds, .ref a_m_paces, .ref a_m_ears, .int m_many, .int m_at, .int m_place, .int m_end, .int m_readYards, .int m_readSeeps, .int m_readChildren, .ref a_m_hearers, .ref a_m_chosen, .int m_chosenMany, .ref a_m_dues, .ref a_m_sights, .int m_seenMany])), (a_m_row, .inl (cI, 95, .inl m_row)), (a_m_tides, .inl (cI, 12, .inl m_tides)), (a_m_seeps, .inl (cI, 18, .inl m_seeps)), (a_m_kinds, .inl (cI, 5, .inl m_kinds)), (a_m_paces, .inl (cI, 5, .inl m_paces)), (a_m_ears, .inl (cI, 5, .inl m_ears)), (a_m_hearers, .inl (cI, 6, .inl m_hearers))] (some (.int r)) [(a_m, .inr (9, [.ref a_m_row, .ref a_m_isKept, .ref a_m_text, .int m_length, .ref a_m_read, .int m_readMany, .int m_yards, .ref a_m_tides, .ref a_m_seeps, .int m_seepMany, .ref a_m_kinds, .ref a_m_paces, .ref a_m_ears, .int m_many, .int m_at, .int m_place, .int m_end, .int m_readYards, .int m_readSeeps, .int m_readChildren, .ref a_m_hearers, .ref a_m_chosen, .int m_chosenMany, .ref a_m_dues, .ref a_m_sights, .int m_seenMany])), (a_m_row, .inl (cI, 95, .inl (m_row'))), (a_m_tides, .inl (cI, 12, .inl m_tides)), (a_m_seeps, .inl (cI, 18, .inl m_seeps)), (a_m_kinds, .inl (cI, 5, .inl m_kinds)), (a_m_paces, .inl (cI, 5, .inl m_paces)), (a_m_ears, .inl (cI, 5, .inl m_ears)), (a_m_hearers, .inl (cI, 6, .inl (m_hearers')))] := by
  unfold F_X9_missed at hF
  refine kStart (lv := [(0, .ref a_m), (1, .int p1)]) (own := "DikeWatchModel") (plainFor_of_name (by decide)) rfl (Nat.le_of_ble_eq_true rfl) rfl ?_
  intro p e s m args below meth c A Q ls hQ C hx hb hw hl
  refine lv_iload_n hx hb (dq dt_X9_missed 0 rfl) rfl (lv_at hl 1 rfl) ?_
  refine lv_i2l (v := (p1.toInt64)) hx hb (dq dt_X9_missed 1 rfl) rfl ?_
  refine lv_lconst (v := (0 : Int64)) hx hb (dq dt_X9_missed 2 rfl) (by decide) ?_
  refine lv_iconst (v := (1 : Int32)) hx hb (dq dt_X9_missed 3 rfl) (by decide) ?_
  refine lv_aload_n hx hb (dq dt_X9_missed 4 rfl) rfl (lv_at hl 0 rfl) ?_
  refine kGet (ci := 9) C in_X9 hw 0 rfl rfl 13 (by decide) (C.2.2.2.2.2.2.1 _ q4_108) rfl rfl (dq dt_X9_missed 5 rfl) ?_
  refine lv_ishl hx hb (dq dt_X9_missed 6 rfl) ?_
  refine lv_iconst (v := (1 : Int32)) hx hb (dq dt_X9_missed 7 rfl) (by decide) ?_
  refine lv_isub hx hb (dq dt_X9_missed 8 rfl) ?_
  refine lv_i2l (v := ((((1 : Int32) <<< (m_many &&& 31)) - (1 : Int32)).toInt64)) hx hb (dq dt_X9_missed 9 rfl) rfl ?_
  obtain ⟨v1, ev1, hF⟩ := bd_ hF
  refine kNmL ev1 ?_
  obtain ⟨v2, hr3, hF⟩ := zc1_ hF
  refine kCallSP C hw (A_X9_in l D cB cI cJ cZ ad (p1.toInt64) (0 : Int64) v1 v2 hr3) (va_cwS 3 C.2.2.2.2.2.2.1 (w0_S0 q4_182 q4_180 q4_181 q1_10) rfl rfl rfl ke_X9_in ⟨Nat.le_of_ble_eq_true rfl, Nat.le_of_ble_eq_true rfl⟩) hl.1 rfl rfl rfl (Nat.le_of_ble_eq_true rfl) ⟨Nat.le_of_ble_eq_true rfl, Nat.le_of_ble_eq_true rfl⟩ (dq dt_X9_missed 10 rfl) (fun H locs hw => ?_)
  refine lv_if_ne (tgt := 21) hx hb (dq dt_X9_missed 11 rfl) (by decide) (fun c4 => ?_) (fun c4 => ?_)
  · replace hF := if_f c4 hF
    refine lv_aload_n hx hb (dq dt_X9_missed 14 rfl) rfl (lv_at hl 0 rfl) ?_
    obtain ⟨g5, g6, hr7, hF⟩ := zc2_ hF
    refine kCallV (ws2 := [(a_m, .inr (9, [.ref a_m_row, .ref a_m_isKept, .ref a_m_text, .int m_length, .ref a_m_read, .int m_readMany, .int m_yards, .ref a_m_tides, .ref a_m_seeps, .int m_seepMany, .ref a_m_kinds, .ref a_m_paces, .ref a_m_ears, .int m_many, .int m_at, .int m_place, .int m_end, .int m_readYards, .int m_readSeeps, .int m_readChildren, .ref a_m_hearers, .ref a_m_chosen, .int m_chosenMany, .ref a_m_dues, .ref a_m_sights, .int m_seenMany])), (a_m_row, .inl (cI, 95, .inl g5)), (a_m_tides, .inl (cI, 12, .inl m_tides)), (a_m_seeps, .inl (cI, 18, .inl m_seeps)), (a_m_kinds, .inl (cI, 5, .inl m_kinds)), (a_m_paces, .inl (cI, 5, .inl m_paces)), (a_m_ears, .inl (cI, 5, .inl m_ears)), (a_m_hearers, .inl (cI, 6, .inl g6))]) C hw (A_X9_layHearers l D cB cI cJ cZ ad a_m a_m_row a_m_isKept a_m_text a_m_read a_m_tides a_m_seeps a_m_kinds a_m_paces a_m_ears a_m_hearers a_m_chosen a_m_dues a_m_sights m_length m_readMany m_yards m_seepMany m_many m_at m_place m_end m_readYards m_readSeeps m_readChildren m_chosenMany m_seenMany m_row m_tides m_seeps m_kinds m_paces m_ears m_hearers g5 g6 hr7) (cwV 0 C.2.2.2.2.2.2.1 (w0_V0 q5_110 q5_107 q5_109 (ws0 42 rfl) q1_10) rfl rfl rfl kd_X9_layHearers ⟨Nat.le_of_ble_eq_true rfl, Nat.le_of_ble_eq_true rfl⟩) [0, 1, 2, 3, 4, 5, 6, 7] rfl rfl rfl rfl 0 9 rfl rfl hl.1 rfl rfl rfl (Nat.le_of_ble_eq_true rfl) ⟨Nat.le_of_ble_eq_true rfl, Nat.le_of_ble_eq_true rfl⟩ (dq dt_X9_missed 15 rfl) (fun H locs hw => ?_)
    refine lv_aload_n hx hb (dq dt_X9_missed 16 rfl) rfl (lv_at hl 0 rfl) ?_
    refine lv_iload_n hx hb (dq dt_X9_missed 17 rfl) rfl (lv_at hl 1 rfl) ?_
    obtain ⟨v8, hr9, hF⟩ := zc1_ hF
    refine kCallVR C hw (A_X9_missedBy l D cB cI cJ cZ ad a_m a_m_row a_m_isKept a_m_text a_m_read a_m_tides a_m_seeps a_m_kinds a_m_paces a_m_ears a_m_hearers a_m_chosen a_m_dues a_m_sights m_length m_readMany m_yards m_seepMany m_many m_at m_place m_end m_readYards m_readSeeps m_readChildren m_chosenMany m_seenMany g6 p1 v8 hr9) (cwV 1 C.2.2.2.2.2.2.1 (w0_V0 q5_118 q5_115 q5_117 (ws0 44 rfl) q1_10) rfl rfl rfl kd_X9_missedBy ⟨Nat.le_of_ble_eq_true rfl, Nat.le_of_ble_eq_true rfl⟩) [0, 7] rfl rfl 0 9 rfl rfl hl.1 rfl rfl rfl (Nat.le_of_ble_eq_true rfl) ⟨Nat.le_of_ble_eq_true rfl, Nat.le_of_ble_eq_true rfl⟩ (dq dt_X9_missed 18 rfl) (fun H locs hw => ?_)
    cases hF
    exact kRetI hQ C hw (dq dt_X9_missed 19 rfl)
  · replace hF := if_t c4 hF
    refine lv_bipush (v := (-2 : Int32)) hx hb (dq dt_X9_missed 12 rfl) (by decide) ?_
    cases hF
    exact kRetI hQ C hw (dq dt_X9_missed 13 rfl)
def F_X9_watch (m_yards : Int32) (m_seepMany : Int32) (m_many : Int32) (m_row : Nat → Int32) (m_tides : Nat → Int32) (m_seeps : Nat → Int32) (m_kinds : Nat → Int32) (m_paces : Nat → Int32) (m_ears : Nat → Int32) (m_hearers : Nat → Int32) (p1 : Int32) : Option (Int32 × (Nat → Int32) × (Nat → Int32)) :=
  zc1 (F_X9_in (p1.toInt64) (0 : Int64) (1 : Int64)) (fun v1 => if v1 = 0 then (some ((-3 : Int32), m_row, m_hearers)) else (zc2 (F_X9_layHearers m_yards m_seepMany m_many m_row m_tides m_seeps m_kinds m_paces m_ears m_hearers) (fun g4 g5 => zl2 (fun x7 x8 ag9 => if ((1 : Int32) <<< (m_many &&& 31)) ≤ x8 then (if x7 = (-1 : Int32) then (some ((-1 : Int32), g4, g5)) else (if p1 = 0 then (zc1 (F_X9_bits x7) (fun v13 => some (v13, g4, g5))) else (some (x7, g4, g5)))) else (zc1 (F_X9_missedBy m_seepMany g5 x8) (fun v15 => zj0 (bd (x8 + (1 : Int32)) (fun v18 => ag9 x7 v18)) (fun K17 => if v15 = 0 then (zj0 (bd (x8 + (1 : Int32)) (fun v21 => ag9 x8 v21)) (fun K20 => if x7 = (-1 : Int32) then (K20) else (zc1 (F_X9_bits x8) (fun v23 => zc1 (F_X9_bits x7) (fun v25 => if v25 ≤ v23 then (K17) else (K20)))))) else (K17))))) FU (-1 : Int32) (0 : Int32))))
abbrev rm_X9_watch : Room := { frames := 6, cells := 0, slots := 0, locals := 138 }
theorem kd_X9_watch : yX9_watch.cls = RX9 ∧ yX9_watch.cls ≠ "java/lang/invoke/MethodHandle" ∧ yX9_watch.cls ≠ "java/lang/invoke/VarHandle" ∧ (parseMethodDescriptor yX9_watch.desc).map (fun d => d.parameters.length) = some 1 := by decide +kernel
set_option maxRecDepth 100000 in
set_option maxHeartbeats 4000000 in
theorem A_X9_watch (l : Launch) (D : va_G) (cB cI cJ cZ : ClassId) (ad : (Nat → Nat) × (Nat → Nat)) (a_m a_m_row a_m_isKept a_m_text a_m_read a_m_tides a_m_seeps a_m_kinds a_m_paces a_m_ears a_m_hearers a_m_chosen a_m_dues a_m_sights : Nat) (m_length : Int32) (m_readMany : Int32) (m_yards : Int32) (m_seepMany : Int32) (m_many : Int32) (m_at : Int32) (m_place : Int32) (m_end : Int32) (m_readYards : Int32) (m_readSeeps : Int32) (m_readChildren : Int32) (m_chosenMany : Int32) (m_seenMany : Int32) (m_row : Nat → Int32) (m_tides : Nat → Int32) (m_seeps : Nat → Int32) (m_kinds : Nat → Int32) (m_paces : Nat → Int32) (m_ears : Nat → Int32) (m_hearers : Nat → Int32) (p1 : Int32) (r : Int32) (m_row' : Nat → Int32) (m_hearers' : Nat → Int32) (hF : F_X9_watch m_yards m_seepMany m_many m_row m_tides m_seeps m_kinds m_paces m_ears m_hearers p1 = some (r, m_row', m_hearers')) : kM l yX9_watch (Cond.code yX9_watch cX9_watch 4 (some .int) :: W0) rm_X9_watch D (kT cB cI cJ cZ) ad [.ref a_m, .int p1] [(a_m, .inr (9, [.ref a_m_row, .ref a_m_isKept, .ref a_m_text, .int m_length, .ref a_m_read, .int m_readMany, .int m_yards, .ref a_m_tides, .ref a_m_seeps, .int m_seepMany, .ref a_m_kinds, .ref a_m_paces, .ref a_m_ears, .int m_many, .int m_at, .int m_place, .int m_end, .int m_readYards, .int m_readSeeps, .int m_readChildren, .ref a_m_hearers, .ref a_m_chosen, .int m_chosenMany, .ref a_m_dues, .ref a_m_sights, .int m_seenMany])), (a_m_row, .inl (cI, 95, .inl m_row)), (a_m_tides, .inl (cI, 12, .inl m_tides)), (a_m_seeps, .inl (cI, 18, .inl m_seeps)), (a_m_kinds, .inl (cI, 5, .inl m_kinds)), (a_m_paces, .inl (cI, 5, .inl m_paces)), (a_m_ears, .inl (cI, 5, .inl m_ears)), (a_m_hearers, .inl (cI, 6, .inl m_hearers))] (some (.int r)) [(a_m, .inr (9, [.ref a_m_row, .ref a_m_isKept, .ref a_m_text, .int m_length, .ref a_m_read, .int m_readMany, .int m_yards, .ref a_m_tides, .ref a_m_seeps, .int m_seepMany, .ref a_m_kinds, .ref a_m_paces, .ref a_m_ears, .int m_many, .int m_at, .int m_place, .int m_end, .int m_readYards, .int m_readSeeps, .int m_readChildren, .ref a_m_hearers, .ref a_m_chosen, .int m_chosenMany, .ref a_m_dues, .ref a_m_sights, .int m_seenMany])), (a_m_row, .inl (cI, 95, .inl (m_row'))), (a_m_tides, .inl (cI, 12, .inl m_tides)), (a_m_seeps, .inl (cI, 18, .inl m_seeps)), (a_m_kinds, .inl (cI, 5, .inl m_kinds)), (a_m_paces, .inl (cI, 5, .inl m_paces)), (a_m_ears, .inl (cI, 5, .inl m_ears)), (a_m_hearers, .inl (cI, 6, .inl (m_hearers')))] := by
  unfold F_X9_watch at hF
  refine kStart (lv := [(0, .ref a_m), (1, .int p1)]) (own := "DikeWatchModel") (plainFor_of_name (by decide)) rfl (Nat.le_of_ble_eq_true rfl) rfl ?_
  intro p e s m args below meth c A Q ls hQ C hx hb hw hl
  refine lv_iload_n hx hb (dq dt_X9_watch 0 rfl) rfl (lv_at hl 1 rfl) ?_
  refine lv_i2l (v := (p1.toInt64)) hx hb (dq dt_X9_watch 1 rfl) rfl ?_
  refine lv_lconst (v := (0 : Int64)) hx hb (dq dt_X9_watch 2 rfl) (by decide) ?_
  refine lv_lconst (v := (1 : Int64)) hx hb (dq dt_X9_watch 3 rfl) (by decide) ?_
  obtain ⟨v1, hr2, hF⟩ := zc1_ hF
  refine kCallSP C hw (A_X9_in l D cB cI cJ cZ ad (p1.toInt64) (0 : Int64) (1 : Int64) v1 hr2) (va_cwS 3 C.2.2.2.2.2.2.1 (w0_S0 q4_182 q4_180 q4_181 q1_10) rfl rfl rfl ke_X9_in ⟨Nat.le_of_ble_eq_true rfl, Nat.le_of_ble_eq_true rfl⟩) hl.1 rfl rfl rfl (Nat.le_of_ble_eq_true rfl) ⟨Nat.le_of_ble_eq_true rfl, Nat.le_of_ble_eq_true rfl⟩ (dq dt_X9_watch 4 rfl) (fun H locs hw => ?_)
  refine lv_if_ne (tgt := 13) hx hb (dq dt_X9_watch 5 rfl) (by decide) (fun c3 => ?_) (fun c3 => ?_)
  · replace hF := if_f c3 hF
    refine lv_aload_n hx hb (dq dt_X9_watch 8 rfl) rfl (lv_at hl 0 rfl) ?_
    obtain ⟨g4, g5, hr6, hF⟩ := zc2_ hF
    refine kCallV (ws2 := [(a_m, .inr (9, [.ref a_m_row, .ref a_m_isKept, .ref a_m_text, .int m_length, .ref a_m_read, .int m_readMany, .int m_yards, .ref a_m_tides, .ref a_m_seeps, .int m_seepMany, .ref a_m_kinds, .ref a_m_paces, .ref a_m_ears, .int m_many, .int m_at, .int m_place, .int m_end, .int m_readYards, .int m_readSeeps, .int m_readChildren, .ref a_m_hearers, .ref a_m_chosen, .int m_chosenMany, .ref a_m_dues, .ref a_m_sights, .int m_seenMany])), (a_m_row, .inl (cI, 95, .inl g4)), (a_m_tides, .inl (cI, 12, .inl m_tides)), (a_m_seeps, .inl (cI, 18, .inl m_seeps)), (a_m_kinds, .inl (cI, 5, .inl m_kinds)), (a_m_paces, .inl (cI, 5, .inl m_paces)), (a_m_ears, .inl (cI, 5, .inl m_ears)), (a_m_hearers, .inl (cI, 6, .inl g5))]) C hw (A_X9_layHearers l D cB cI cJ cZ ad a_m a_m_row a_m_isKept a_m_text a_m_read a_m_tides a_m_seeps a_m_kinds a_m_paces a_m_ears a_m_hearers a_m_chosen a_m_dues a_m_sights m_length m_readMany m_yards m_seepMany m_many m_at m_place m_end m_readYards m_readSeeps m_readChildren m_chosenMany m_seenMany m_row m_tides m_seeps m_kinds m_paces m_ears m_hearers g4 g5 hr6) (cwV 0 C.2.2.2.2.2.2.1 (w0_V0 q5_110 q5_107 q5_109 (ws0 42 rfl) q1_10) rfl rfl rfl kd_X9_layHearers ⟨Nat.le_of_ble_eq_true rfl, Nat.le_of_ble_eq_true rfl⟩) [0, 1, 2, 3, 4, 5, 6, 7] rfl rfl rfl rfl 0 9 rfl rfl hl.1 rfl rfl rfl (Nat.le_of_ble_eq_true rfl) ⟨Nat.le_of_ble_eq_true rfl, Nat.le_of_ble_eq_true rfl⟩ (dq dt_X9_watch 9 rfl) (fun H locs hw => ?_)
    refine lv_iconst (v := (-1 : Int32)) hx hb (dq dt_X9_watch 10 rfl) (by decide) ?_
    refine lv_istore_n (lv' := [(2, .int (-1 : Int32)), (0, .ref a_m), (1, .int p1)]) hx hb (dq dt_X9_watch 11 rfl) rfl hl (by decide) rfl (fun ls hl => ?_)
    refine lv_iconst (v := (0 : Int32)) hx hb (dq dt_X9_watch 12 rfl) (by decide) ?_
    refine lv_istore_n (lv' := [(3, .int (0 : Int32)), (2, .int (-1 : Int32)), (0, .ref a_m), (1, .int p1)]) hx hb (dq dt_X9_watch 13 rfl) rfl hl (by decide) rfl (fun ls hl => ?_)
    obtain ⟨K9, hK09, hK9, hF⟩ := zl2_ hF
    have L9 : ∀ (n : Nat) (x7 : Int32) (x8 : Int32), K9 n x7 x8 = some (r, m_row', m_hearers') → ∀ (H : Heap) (locs : List Loc) (ls : Array Slot), kW D A s.heap [(a_m, .inr (9, [.ref a_m_row, .ref a_m_isKept, .ref a_m_text, .int m_length, .ref a_m_read, .int m_readMany, .int m_yards, .ref a_m_tides, .ref a_m_seeps, .int m_seepMany, .ref a_m_kinds, .ref a_m_paces, .ref a_m_ears, .int m_many, .int m_at, .int m_place, .int m_end, .int m_readYards, .int m_readSeeps, .int m_readChildren, .ref a_m_hearers, .ref a_m_chosen, .int m_chosenMany, .ref a_m_dues, .ref a_m_sights, .int m_seenMany])), (a_m_row, .inl (cI, 95, .inl g4)), (a_m_tides, .inl (cI, 12, .inl m_tides)), (a_m_seeps, .inl (cI, 18, .inl m_seeps)), (a_m_kinds, .inl (cI, 5, .inl m_kinds)), (a_m_paces, .inl (cI, 5, .inl m_paces)), (a_m_ears, .inl (cI, 5, .inl m_ears)), (a_m_hearers, .inl (cI, 6, .inl g5))] H locs → lv_has ls 4 [(0, .ref a_m), (1, .int p1), (2, .int x7), (3, .int x8)] → W p l e rm_X9_watch s m args below meth c H locs 0 0 Q (F0 m 21 ls []) := by
      intro n
      induction n with
      | zero => intro x7 x8 hF; exact (lp_no (hK09 x7 x8) hF).elim
      | succ n ih9 =>
        intro x7 x8 hF H locs ls hw hl
        replace hF := hK9 n x7 x8 hF
        refine lv_iload_n hx hb (dq dt_X9_watch 14 rfl) rfl (lv_at hl 3 rfl) ?_
        refine lv_iconst (v := (1 : Int32)) hx hb (dq dt_X9_watch 15 rfl) (by decide) ?_
        refine lv_aload_n hx hb (dq dt_X9_watch 16 rfl) rfl (lv_at hl 0 rfl) ?_
        refine kGet (ci := 9) C in_X9 hw 0 rfl rfl 13 (by decide) (C.2.2.2.2.2.2.1 _ q4_108) rfl rfl (dq dt_X9_watch 17 rfl) ?_
        refine lv_ishl hx hb (dq dt_X9_watch 18 rfl) ?_
        refine lv_icmp_ge (tgt := 67) hx hb (dq dt_X9_watch 19 rfl) (by decide) (fun c10 => ?_) (fun c10 => ?_)
        · replace hF := if_t c10 hF
          refine lv_iload_n hx hb (dq dt_X9_watch 38 rfl) rfl (lv_at hl 2 rfl) ?_
          refine lv_iconst (v := (-1 : Int32)) hx hb (dq dt_X9_watch 39 rfl) (by decide) ?_
          refine lv_icmp_ne (tgt := 76) hx hb (dq dt_X9_watch 40 rfl) (by decide) (fun c11 => ?_) (fun c11 => ?_)
          · replace hF := if_f c11 hF
            refine lv_iload_n hx hb (dq dt_X9_watch 43 rfl) rfl (lv_at hl 1 rfl) ?_
            refine lv_if_ne (tgt := 87) hx hb (dq dt_X9_watch 44 rfl) (by decide) (fun c12 => ?_) (fun c12 => ?_)
            · replace hF := if_f c12 hF
              refine lv_iload_n hx hb (dq dt_X9_watch 48 rfl) rfl (lv_at hl 2 rfl) ?_
              cases hF
              exact kRetI hQ C hw (dq dt_X9_watch 49 rfl)
            · replace hF := if_t c12 hF
              refine lv_iload_n hx hb (dq dt_X9_watch 45 rfl) rfl (lv_at hl 2 rfl) ?_
              obtain ⟨v13, hr14, hF⟩ := zc1_ hF
              refine kCallSP C hw (A_X9_bits l D cB cI cJ cZ ad x7 v13 hr14) (va_cwS 1 C.2.2.2.2.2.2.1 (w0_S0 q5_125 q5_123 q5_124 q1_10) rfl rfl rfl ke_X9_bits ⟨Nat.le_of_ble_eq_true rfl, Nat.le_of_ble_eq_true rfl⟩) hl.1 rfl rfl rfl (Nat.le_of_ble_eq_true rfl) ⟨Nat.le_of_ble_eq_true rfl, Nat.le_of_ble_eq_true rfl⟩ (dq dt_X9_watch 46 rfl) (fun H locs hw => ?_)
              refine lv_goto (tgt := 88) hx hb (dq dt_X9_watch 47 rfl) (by decide) ?_
              cases hF
              exact kRetI hQ C hw (dq dt_X9_watch 49 rfl)
          · replace hF := if_t c11 hF
            refine lv_iconst (v := (-1 : Int32)) hx hb (dq dt_X9_watch 41 rfl) (by decide) ?_
            refine lv_goto (tgt := 88) hx hb (dq dt_X9_watch 42 rfl) (by decide) ?_
            cases hF
            exact kRetI hQ C hw (dq dt_X9_watch 49 rfl)
        · replace hF := if_f c10 hF
          refine lv_aload_n hx hb (dq dt_X9_watch 20 rfl) rfl (lv_at hl 0 rfl) ?_
          refine lv_iload_n hx hb (dq dt_X9_watch 21 rfl) rfl (lv_at hl 3 rfl) ?_
          obtain ⟨v15, hr16, hF⟩ := zc1_ hF
          refine kCallVR C hw (A_X9_missedBy l D cB cI cJ cZ ad a_m a_m_row a_m_isKept a_m_text a_m_read a_m_tides a_m_seeps a_m_kinds a_m_paces a_m_ears a_m_hearers a_m_chosen a_m_dues a_m_sights m_length m_readMany m_yards m_seepMany m_many m_at m_place m_end m_readYards m_readSeeps m_readChildren m_chosenMany m_seenMany g5 x8 v15 hr16) (cwV 1 C.2.2.2.2.2.2.1 (w0_V0 q5_118 q5_115 q5_117 (ws0 44 rfl) q1_10) rfl rfl rfl kd_X9_missedBy ⟨Nat.le_of_ble_eq_true rfl, Nat.le_of_ble_eq_true rfl⟩) [0, 7] rfl rfl 0 9 rfl rfl hl.1 rfl rfl rfl (Nat.le_of_ble_eq_true rfl) ⟨Nat.le_of_ble_eq_true rfl, Nat.le_of_ble_eq_true rfl⟩ (dq dt_X9_watch 22 rfl) (fun H locs hw => ?_)
          obtain ⟨K17, hK17, hF⟩ := zj0_ hF
          have J17 : K17 = some (r, m_row', m_hearers') → ∀ (H : Heap) (locs : List Loc) (ls : Array Slot), kW D A s.heap [(a_m, .inr (9, [.ref a_m_row, .ref a_m_isKept, .ref a_m_text, .int m_length, .ref a_m_read, .int m_readMany, .int m_yards, .ref a_m_tides, .ref a_m_seeps, .int m_seepMany, .ref a_m_kinds, .ref a_m_paces, .ref a_m_ears, .int m_many, .int m_at, .int m_place, .int m_end, .int m_readYards, .int m_readSeeps, .int m_readChildren, .ref a_m_hearers, .ref a_m_chosen, .int m_chosenMany, .ref a_m_dues, .ref a_m_sights, .int m_seenMany])), (a_m_row, .inl (cI, 95, .inl g4)), (a_m_tides, .inl (cI, 12, .inl m_tides)), (a_m_seeps, .inl (cI, 18, .inl m_seeps)), (a_m_kinds, .inl (cI, 5, .inl m_kinds)), (a_m_paces, .inl (cI, 5, .inl m_paces)), (a_m_ears, .inl (cI, 5, .inl m_ears)), (a_m_hearers, .inl (cI, 6, .inl g5))] H locs → lv_has ls 4 [(0, .ref a_m), (1, .int p1), (2, .int x7), (3, .int x8)] → W p l e rm_X9_watch s m args below meth c H locs 0 0 Q (F0 m 59 ls []) := by
            intro hF H locs ls hw hl
            replace hF := hK17 hF
            refine lv_iload_n hx hb (dq dt_X9_watch 34 rfl) rfl (lv_at hl 2 rfl) ?_
            refine lv_istore_n (lv' := [(2, .int x7), (0, .ref a_m), (1, .int p1), (3, .int x8)]) hx hb (dq dt_X9_watch 35 rfl) rfl hl (by decide) rfl (fun ls hl => ?_)
            obtain ⟨v18, ev18, hF⟩ := bd_ hF
            refine lv_iinc (v := v18) (lv' := [(3, .int v18), (2, .int x7), (0, .ref a_m), (1, .int p1)]) hx hb (dq dt_X9_watch 36 rfl) hl (k := 3) rfl ev18.symm (by decide) rfl (fun ls hl => ?_)
            refine lv_goto (tgt := 21) hx hb (dq dt_X9_watch 37 rfl) (by decide) ?_
            exact ih9 x7 v18 hF _ _ _ hw (lv_sub hl [2, 3, 1, 0] rfl)
          refine lv_if_ne (tgt := 59) hx hb (dq dt_X9_watch 23 rfl) (by decide) (fun c19 => ?_) (fun c19 => ?_)
          · replace hF := if_f c19 hF
            exact J17 hF _ _ _ hw (lv_sub hl [0, 1, 2, 3] rfl)
          · replace hF := if_t c19 hF
            refine lv_iload_n hx hb (dq dt_X9_watch 24 rfl) rfl (lv_at hl 2 rfl) ?_
            refine lv_iconst (v := (-1 : Int32)) hx hb (dq dt_X9_watch 25 rfl) (by decide) ?_
            obtain ⟨K20, hK20, hF⟩ := zj0_ hF
            have J20 : K20 = some (r, m_row', m_hearers') → ∀ (H : Heap) (locs : List Loc) (ls : Array Slot), kW D A s.heap [(a_m, .inr (9, [.ref a_m_row, .ref a_m_isKept, .ref a_m_text, .int m_length, .ref a_m_read, .int m_readMany, .int m_yards, .ref a_m_tides, .ref a_m_seeps, .int m_seepMany, .ref a_m_kinds, .ref a_m_paces, .ref a_m_ears, .int m_many, .int m_at, .int m_place, .int m_end, .int m_readYards, .int m_readSeeps, .int m_readChildren, .ref a_m_hearers, .ref a_m_chosen, .int m_chosenMany, .ref a_m_dues, .ref a_m_sights, .int m_seenMany])), (a_m_row, .inl (cI, 95, .inl g4)), (a_m_tides, .inl (cI, 12, .inl m_tides)), (a_m_seeps, .inl (cI, 18, .inl m_seeps)), (a_m_kinds, .inl (cI, 5, .inl m_kinds)), (a_m_paces, .inl (cI, 5, .inl m_paces)), (a_m_ears, .inl (cI, 5, .inl m_ears)), (a_m_hearers, .inl (cI, 6, .inl g5))] H locs → lv_has ls 4 [(0, .ref a_m), (1, .int p1), (3, .int x8)] → W p l e rm_X9_watch s m args below meth c H locs 0 0 Q (F0 m 55 ls []) := by
              intro hF H locs ls hw hl
              replace hF := hK20 hF
              refine lv_iload_n hx hb (dq dt_X9_watch 32 rfl) rfl (lv_at hl 2 rfl) ?_
              refine lv_goto (tgt := 60) hx hb (dq dt_X9_watch 33 rfl) (by decide) ?_
              refine lv_istore_n (lv' := [(2, .int x8), (0, .ref a_m), (1, .int p1), (3, .int x8)]) hx hb (dq dt_X9_watch 35 rfl) rfl hl (by decide) rfl (fun ls hl => ?_)
              obtain ⟨v21, ev21, hF⟩ := bd_ hF
              refine lv_iinc (v := v21) (lv' := [(3, .int v21), (2, .int x8), (0, .ref a_m), (1, .int p1)]) hx hb (dq dt_X9_watch 36 rfl) hl (k := 3) rfl ev21.symm (by decide) rfl (fun ls hl => ?_)
              refine lv_goto (tgt := 21) hx hb (dq dt_X9_watch 37 rfl) (by decide) ?_
              exact ih9 x8 v21 hF _ _ _ hw (lv_sub hl [2, 3, 1, 0] rfl)
            refine lv_icmp_eq (tgt := 55) hx hb (dq dt_X9_watch 26 rfl) (by decide) (fun c22 => ?_) (fun c22 => ?_)
            · replace hF := if_t c22 hF
              exact J20 hF _ _ _ hw (lv_sub hl [0, 1, 3] rfl)
            · replace hF := if_f c22 hF
              refine lv_iload_n hx hb (dq dt_X9_watch 27 rfl) rfl (lv_at hl 3 rfl) ?_
              obtain ⟨v23, hr24, hF⟩ := zc1_ hF
              refine kCallSP C hw (A_X9_bits l D cB cI cJ cZ ad x8 v23 hr24) (va_cwS 1 C.2.2.2.2.2.2.1 (w0_S0 q5_125 q5_123 q5_124 q1_10) rfl rfl rfl ke_X9_bits ⟨Nat.le_of_ble_eq_true rfl, Nat.le_of_ble_eq_true rfl⟩) hl.1 rfl rfl rfl (Nat.le_of_ble_eq_true rfl) ⟨Nat.le_of_ble_eq_true rfl, Nat.le_of_ble_eq_true rfl⟩ (dq dt_X9_watch 28 rfl) (fun H locs hw => ?_)
              refine lv_iload_n hx hb (dq dt_X9_watch 29 rfl) rfl (lv_at hl 2 rfl) ?_
              obtain ⟨v25, hr26, hF⟩ := zc1_ hF
              refine kCallSP C hw (A_X9_bits l D cB cI cJ cZ ad x7 v25 hr26) (va_cwS 1 C.2.2.2.2.2.2.1 (w0_S0 q5_125 q5_123 q5_124 q1_10) rfl rfl rfl ke_X9_bits ⟨Nat.le_of_ble_eq_true rfl, Nat.le_of_ble_eq_true rfl⟩) hl.1 rfl rfl rfl (Nat.le_of_ble_eq_true rfl) ⟨Nat.le_of_ble_eq_true rfl, Nat.le_of_ble_eq_true rfl⟩ (dq dt_X9_watch 30 rfl) (fun H locs hw => ?_)
              refine lv_icmp_ge (tgt := 59) hx hb (dq dt_X9_watch 31 rfl) (by decide) (fun c27 => ?_) (fun c27 => ?_)
              · replace hF := if_t c27 hF
                exact J17 hF _ _ _ hw (lv_sub hl [0, 1, 2, 3] rfl)
              · replace hF := if_f c27 hF
                exact J20 hF _ _ _ hw (lv_sub hl [0, 1, 3] rfl)
    exact L9 _ (-1 : Int32) (0 : Int32) hF _ _ _ hw (lv_sub hl [2, 3, 1, 0] rfl)
  · replace hF := if_t c3 hF
    refine lv_bipush (v := (-3 : Int32)) hx hb (dq dt_X9_watch 6 rfl) (by decide) ?_
    cases hF
    exact kRetI hQ C hw (dq dt_X9_watch 7 rfl)
def F_X9_rowOf (m_chosenMany : Int32) (m_chosen : Nat → Int32) (p1 : Int32) (p2 : Int32) : Option (Int32) :=
  bd (((1 : Int32) <<< (m_chosenMany &&& 31)) - (1 : Int32)) (fun v1 => zl2 (fun x2 x3 ag4 => if m_chosenMany ≤ x3 then (zl5 (fun x6 x7 x8 x9 x10 ag11 => if p2 < x10 then (rd 5 m_chosen x7 (fun v13 => some v13)) else (ckI x9 (bd (x8 / x9) (fun v16 => zl2 (fun x17 x18 ag19 => zc1 (F_X9_has x6 x17) (fun v20 => zj0 (zc1 (F_X9_has x6 x17) (fun v23 => zj1 (fun y25 => bd (x18 - y25) (fun v27 => bd (x17 + (1 : Int32)) (fun v28 => ag19 v28 v27))) (fun K26 => if v23 = 0 then (K26 (0 : Int32)) else (K26 (1 : Int32))))) (fun K22 => if v20 = 0 then (K22) else (if x18 ≤ 0 then (ckI x9 (bd (x8 - x8 / x9 * x9) (fun v33 => bd (x6 &&& (((1 : Int32) <<< (x17 &&& 31)) ^^^ (-1 : Int32))) (fun v34 => if ((m_chosenMany - (1 : Int32)) - x10) ≤ 0 then (bd (x10 + (1 : Int32)) (fun v36 => ag11 v34 x17 v33 (1 : Int32) v36)) else (ckI ((m_chosenMany - (1 : Int32)) - x10) (bd (x9 / ((m_chosenMany - (1 : Int32)) - x10)) (fun v38 => bd (x10 + (1 : Int32)) (fun v39 => ag11 v34 x17 v33 v38 v39)))))))) else (K22))))) FU (0 : Int32) v16)))) FU v1 (-1 : Int32) p1 x2 (0 : Int32)) else (bd (x2 * x3) (fun v40 => bd (x3 + (1 : Int32)) (fun v41 => ag4 v40 v41)))) FU (1 : Int32) (2 : Int32))
abbrev rm_X9_rowOf : Room := { frames := 1, cells := 0, slots := 0, locals := 21 }
theorem kd_X9_rowOf : yX9_rowOf.cls = RX9 ∧ yX9_rowOf.cls ≠ "java/lang/invoke/MethodHandle" ∧ yX9_rowOf.cls ≠ "java/lang/invoke/VarHandle" ∧ (parseMethodDescriptor yX9_rowOf.desc).map (fun d => d.parameters.length) = some 2 := by decide +kernel
set_option maxRecDepth 100000 in
set_option maxHeartbeats 4000000 in
theorem A_X9_rowOf (l : Launch) (D : va_G) (cB cI cJ cZ : ClassId) (ad : (Nat → Nat) × (Nat → Nat)) (a_m a_m_row a_m_isKept a_m_text a_m_read a_m_tides a_m_seeps a_m_kinds a_m_paces a_m_ears a_m_hearers a_m_chosen a_m_dues a_m_sights : Nat) (m_length : Int32) (m_readMany : Int32) (m_yards : Int32) (m_seepMany : Int32) (m_many : Int32) (m_at : Int32) (m_place : Int32) (m_end : Int32) (m_readYards : Int32) (m_readSeeps : Int32) (m_readChildren : Int32) (m_chosenMany : Int32) (m_seenMany : Int32) (m_chosen : Nat → Int32) (p1 : Int32) (p2 : Int32) (r : Int32) (hF : F_X9_rowOf m_chosenMany m_chosen p1 p2 = some r) : kM l yX9_rowOf (Cond.code yX9_rowOf cX9_rowOf 9 (some .int) :: W0) rm_X9_rowOf D (kT cB cI cJ cZ) ad [.ref a_m, .int p1, .int p2] [(a_m, .inr (9, [.ref a_m_row, .ref a_m_isKept, .ref a_m_text, .int m_length, .ref a_m_read, .int m_readMany, .int m_yards, .ref a_m_tides, .ref a_m_seeps, .int m_seepMany, .ref a_m_kinds, .ref a_m_paces, .ref a_m_ears, .int m_many, .int m_at, .int m_place, .int m_end, .int m_readYards, .int m_readSeeps, .int m_readChildren, .ref a_m_hearers, .ref a_m_chosen, .int m_chosenMany, .ref a_m_dues, .ref a_m_sights, .int m_seenMany])), (a_m_chosen, .inl (cI, 5, .inl m_chosen))] (some (.int r)) [(a_m, .inr (9, [.ref a_m_row, .ref a_m_isKept, .ref a_m_text, .int m_length, .ref a_m_read, .int m_readMany, .int m_yards, .ref a_m_tides, .ref a_m_seeps, .int m_seepMany, .ref a_m_kinds, .ref a_m_paces, .ref a_m_ears, .int m_many, .int m_at, .int m_place, .int m_end, .int m_readYards, .int m_readSeeps, .int m_readChildren, .ref a_m_hearers, .ref a_m_chosen, .int m_chosenMany, .ref a_m_dues, .ref a_m_sights, .int m_seenMany])), (a_m_chosen, .inl (cI, 5, .inl m_chosen))] := by
  unfold F_X9_rowOf at hF
  refine kStart (lv := [(0, .ref a_m), (1, .int p1), (2, .int p2)]) (own := "DikeWatchModel") (plainFor_of_name (by decide)) rfl (Nat.le_of_ble_eq_true rfl) rfl ?_
  intro p e s m args below meth c A Q ls hQ C hx hb hw hl
  refine lv_iconst (v := (1 : Int32)) hx hb (dq dt_X9_rowOf 0 rfl) (by decide) ?_
  refine lv_aload_n hx hb (dq dt_X9_rowOf 1 rfl) rfl (lv_at hl 0 rfl) ?_
  refine kGet (ci := 9) C in_X9 hw 0 rfl rfl 22 (by decide) (C.2.2.2.2.2.2.1 _ q4_117) rfl rfl (dq dt_X9_rowOf 2 rfl) ?_
  refine lv_ishl hx hb (dq dt_X9_rowOf 3 rfl) ?_
  refine lv_iconst (v := (1 : Int32)) hx hb (dq dt_X9_rowOf 4 rfl) (by decide) ?_
  refine lv_isub hx hb (dq dt_X9_rowOf 5 rfl) ?_
  obtain ⟨v1, ev1, hF⟩ := bd_ hF
  refine kNmI ev1 ?_
  refine lv_istore_n (lv' := [(3, .int v1), (0, .ref a_m), (1, .int p1), (2, .int p2)]) hx hb (dq dt_X9_rowOf 6 rfl) rfl hl (by decide) rfl (fun ls hl => ?_)
  refine lv_iconst (v := (-1 : Int32)) hx hb (dq dt_X9_rowOf 7 rfl) (by decide) ?_
  refine lv_istore (lv' := [(4, .int (-1 : Int32)), (3, .int v1), (0, .ref a_m), (1, .int p1), (2, .int p2)]) hx hb (dq dt_X9_rowOf 8 rfl) hl (by decide) rfl (fun ls hl => ?_)
  refine lv_iload_n hx hb (dq dt_X9_rowOf 9 rfl) rfl (lv_at hl 3 rfl) ?_
  refine lv_istore (lv' := [(5, .int p1), (4, .int (-1 : Int32)), (3, .int v1), (0, .ref a_m), (1, .int p1), (2, .int p2)]) hx hb (dq dt_X9_rowOf 10 rfl) hl (by decide) rfl (fun ls hl => ?_)
  refine lv_iconst (v := (1 : Int32)) hx hb (dq dt_X9_rowOf 11 rfl) (by decide) ?_
  refine lv_istore (lv' := [(6, .int (1 : Int32)), (5, .int p1), (4, .int (-1 : Int32)), (3, .int v1), (0, .ref a_m), (1, .int p1), (2, .int p2)]) hx hb (dq dt_X9_rowOf 12 rfl) hl (by decide) rfl (fun ls hl => ?_)
  refine lv_iconst (v := (2 : Int32)) hx hb (dq dt_X9_rowOf 13 rfl) (by decide) ?_
  refine lv_istore (lv' := [(7, .int (2 : Int32)), (6, .int (1 : Int32)), (5, .int p1), (4, .int (-1 : Int32)), (3, .int v1), (0, .ref a_m), (1, .int p1), (2, .int p2)]) hx hb (dq dt_X9_rowOf 14 rfl) hl (by decide) rfl (fun ls hl => ?_)
  obtain ⟨K4, hK04, hK4, hF⟩ := zl2_ hF
  have L4 : ∀ (n : Nat) (x2 : Int32) (x3 : Int32), K4 n x2 x3 = some r → ∀ (H : Heap) (locs : List Loc) (ls : Array Slot), kW D A s.heap [(a_m, .inr (9, [.ref a_m_row, .ref a_m_isKept, .ref a_m_text, .int m_length, .ref a_m_read, .int m_readMany, .int m_yards, .ref a_m_tides, .ref a_m_seeps, .int m_seepMany, .ref a_m_kinds, .ref a_m_paces, .ref a_m_ears, .int m_many, .int m_at, .int m_place, .int m_end, .int m_readYards, .int m_readSeeps, .int m_readChildren, .ref a_m_hearers, .ref a_m_chosen, .int m_chosenMany, .ref a_m_dues, .ref a_m_sights, .int m_seenMany])), (a_m_chosen, .inl (cI, 5, .inl m_chosen))] H locs → lv_has ls 9 [(0, .ref a_m), (2, .int p2), (3, .int v1), (4, .int (-1 : Int32)), (5, .int p1), (6, .int x2), (7, .int x3)] → W p l e rm_X9_rowOf s m args below meth c H locs 0 0 Q (F0 m 21 ls []) := by
    intro n
    induction n with
    | zero => intro x2 x3 hF; exact (lp_no (hK04 x2 x3) hF).elim
    | succ n ih4 =>
      intro x2 x3 hF H locs ls hw hl
      replace hF := hK4 n x2 x3 hF
      refine lv_iload hx hb (dq dt_X9_rowOf 15 rfl) (lv_at hl 6 rfl) ?_
      refine lv_aload_n hx hb (dq dt_X9_rowOf 16 rfl) rfl (lv_at hl 0 rfl) ?_
      refine kGet (ci := 9) C in_X9 hw 0 rfl rfl 22 (by decide) (C.2.2.2.2.2.2.1 _ q4_117) rfl rfl (dq dt_X9_rowOf 17 rfl) ?_
      refine lv_icmp_ge (tgt := 43) hx hb (dq dt_X9_rowOf 18 rfl) (by decide) (fun c5 => ?_) (fun c5 => ?_)
      · replace hF := if_t c5 hF
        refine lv_iconst (v := (0 : Int32)) hx hb (dq dt_X9_rowOf 25 rfl) (by decide) ?_
        refine lv_istore (lv' := [(7, .int (0 : Int32)), (0, .ref a_m), (2, .int p2), (3, .int v1), (4, .int (-1 : Int32)), (5, .int p1), (6, .int x2)]) hx hb (dq dt_X9_rowOf 26 rfl) hl (by decide) rfl (fun ls hl => ?_)
        obtain ⟨K11, hK011, hK11, hF⟩ := zl5_ hF
        have L11 : ∀ (n : Nat) (x6 : Int32) (x7 : Int32) (x8 : Int32) (x9 : Int32) (x10 : Int32), K11 n x6 x7 x8 x9 x10 = some r → ∀ (H : Heap) (locs : List Loc) (ls : Array Slot), kW D A s.heap [(a_m, .inr (9, [.ref a_m_row, .ref a_m_isKept, .ref a_m_text, .int m_length, .ref a_m_read, .int m_readMany, .int m_yards, .ref a_m_tides, .ref a_m_seeps, .int m_seepMany, .ref a_m_kinds, .ref a_m_paces, .ref a_m_ears, .int m_many, .int m_at, .int m_place, .int m_end, .int m_readYards, .int m_readSeeps, .int m_readChildren, .ref a_m_hearers, .ref a_m_chosen, .int m_chosenMany, .ref a_m_dues, .ref a_m_sights, .int m_seenMany])), (a_m_chosen, .inl (cI, 5, .inl m_chosen))] H locs → lv_has ls 9 [(0, .ref a_m), (2, .int p2), (3, .int x6), (4, .int x7), (5, .int x8), (6, .int x9), (7, .int x10)] → W p l e rm_X9_rowOf s m args below meth c H locs 0 0 Q (F0 m 46 ls []) := by
          intro n
          induction n with
          | zero => intro x6 x7 x8 x9 x10 hF; exact (lp_no (hK011 x6 x7 x8 x9 x10) hF).elim
          | succ n ih11 =>
            intro x6 x7 x8 x9 x10 hF H locs ls hw hl
            replace hF := hK11 n x6 x7 x8 x9 x10 hF
            refine lv_iload hx hb (dq dt_X9_rowOf 27 rfl) (lv_at hl 6 rfl) ?_
            refine lv_iload_n hx hb (dq dt_X9_rowOf 28 rfl) rfl (lv_at hl 1 rfl) ?_
            refine lv_icmp_gt (tgt := 153) hx hb (dq dt_X9_rowOf 29 rfl) (by decide) (fun c12 => ?_) (fun c12 => ?_)
            · replace hF := if_t c12 hF
              refine lv_aload_n hx hb (dq dt_X9_rowOf 86 rfl) rfl (lv_at hl 0 rfl) ?_
              refine kGet (ci := 9) C in_X9 hw 0 rfl rfl 21 (by decide) (C.2.2.2.2.2.2.1 _ q4_116) rfl rfl (dq dt_X9_rowOf 87 rfl) ?_
              refine lv_iload hx hb (dq dt_X9_rowOf 88 rfl) (lv_at hl 3 rfl) ?_
              obtain ⟨v13, ev13, hi14, hF⟩ := rd_ hF
              refine kIald C hw 1 1 rfl rfl hi14 ev13 (dq dt_X9_rowOf 89 rfl) ?_
              cases hF
              exact kRetI hQ C hw (dq dt_X9_rowOf 90 rfl)
            · replace hF := if_f c12 hF
              refine lv_iload hx hb (dq dt_X9_rowOf 30 rfl) (lv_at hl 4 rfl) ?_
              refine lv_iload hx hb (dq dt_X9_rowOf 31 rfl) (lv_at hl 5 rfl) ?_
              obtain ⟨hz15, hF⟩ := ckI_ hF
              refine lv_idiv hx hb (dq dt_X9_rowOf 32 rfl) hz15 ?_
              obtain ⟨v16, ev16, hF⟩ := bd_ hF
              refine kNmI ev16 ?_
              refine lv_istore (lv' := [(8, .int v16), (0, .ref a_m), (2, .int p2), (3, .int x6), (4, .int x7), (5, .int x8), (6, .int x9), (7, .int x10)]) hx hb (dq dt_X9_rowOf 33 rfl) hl (by decide) rfl (fun ls hl => ?_)
              refine lv_iconst (v := (0 : Int32)) hx hb (dq dt_X9_rowOf 34 rfl) (by decide) ?_
              refine lv_istore (lv' := [(4, .int (0 : Int32)), (8, .int v16), (0, .ref a_m), (2, .int p2), (3, .int x6), (5, .int x8), (6, .int x9), (7, .int x10)]) hx hb (dq dt_X9_rowOf 35 rfl) hl (by decide) rfl (fun ls hl => ?_)
              obtain ⟨K19, hK019, hK19, hF⟩ := zl2_ hF
              have L19 : ∀ (n : Nat) (x17 : Int32) (x18 : Int32), K19 n x17 x18 = some r → ∀ (H : Heap) (locs : List Loc) (ls : Array Slot), kW D A s.heap [(a_m, .inr (9, [.ref a_m_row, .ref a_m_isKept, .ref a_m_text, .int m_length, .ref a_m_read, .int m_readMany, .int m_yards, .ref a_m_tides, .ref a_m_seeps, .int m_seepMany, .ref a_m_kinds, .ref a_m_paces, .ref a_m_ears, .int m_many, .int m_at, .int m_place, .int m_end, .int m_readYards, .int m_readSeeps, .int m_readChildren, .ref a_m_hearers, .ref a_m_chosen, .int m_chosenMany, .ref a_m_dues, .ref a_m_sights, .int m_seenMany])), (a_m_chosen, .inl (cI, 5, .inl m_chosen))] H locs → lv_has ls 9 [(0, .ref a_m), (2, .int p2), (3, .int x6), (4, .int x17), (5, .int x8), (6, .int x9), (7, .int x10), (8, .int x18)] → W p l e rm_X9_rowOf s m args below meth c H locs 0 0 Q (F0 m 62 ls []) := by
                intro n
                induction n with
                | zero => intro x17 x18 hF; exact (lp_no (hK019 x17 x18) hF).elim
                | succ n ih19 =>
                  intro x17 x18 hF H locs ls hw hl
                  replace hF := hK19 n x17 x18 hF
                  refine lv_iload_n hx hb (dq dt_X9_rowOf 36 rfl) rfl (lv_at hl 2 rfl) ?_
                  refine lv_iload hx hb (dq dt_X9_rowOf 37 rfl) (lv_at hl 3 rfl) ?_
                  obtain ⟨v20, hr21, hF⟩ := zc1_ hF
                  refine kCallSP C hw (A_X9_has l D cB cI cJ cZ ad x6 x17 v20 hr21) (va_cwS 2 C.2.2.2.2.2.2.1 (w0_S0 q5_52 q5_50 q5_51 q1_10) rfl rfl rfl ke_X9_has ⟨Nat.le_of_ble_eq_true rfl, Nat.le_of_ble_eq_true rfl⟩) hl.1 rfl rfl rfl (Nat.le_of_ble_eq_true rfl) ⟨Nat.le_of_ble_eq_true rfl, Nat.le_of_ble_eq_true rfl⟩ (dq dt_X9_rowOf 38 rfl) (fun H locs hw => ?_)
                  obtain ⟨K22, hK22, hF⟩ := zj0_ hF
                  have J22 : K22 = some r → ∀ (H : Heap) (locs : List Loc) (ls : Array Slot), kW D A s.heap [(a_m, .inr (9, [.ref a_m_row, .ref a_m_isKept, .ref a_m_text, .int m_length, .ref a_m_read, .int m_readMany, .int m_yards, .ref a_m_tides, .ref a_m_seeps, .int m_seepMany, .ref a_m_kinds, .ref a_m_paces, .ref a_m_ears, .int m_many, .int m_at, .int m_place, .int m_end, .int m_readYards, .int m_readSeeps, .int m_readChildren, .ref a_m_hearers, .ref a_m_chosen, .int m_chosenMany, .ref a_m_dues, .ref a_m_sights, .int m_seenMany])), (a_m_chosen, .inl (cI, 5, .inl m_chosen))] H locs → lv_has ls 9 [(0, .ref a_m), (2, .int p2), (3, .int x6), (4, .int x17), (5, .int x8), (6, .int x9), (7, .int x10), (8, .int x18)] → W p l e rm_X9_rowOf s m args below meth c H locs 0 0 Q (F0 m 76 ls []) := by
                    intro hF H locs ls hw hl
                    replace hF := hK22 hF
                    refine lv_iload hx hb (dq dt_X9_rowOf 42 rfl) (lv_at hl 7 rfl) ?_
                    refine lv_iload_n hx hb (dq dt_X9_rowOf 43 rfl) rfl (lv_at hl 2 rfl) ?_
                    refine lv_iload hx hb (dq dt_X9_rowOf 44 rfl) (lv_at hl 3 rfl) ?_
                    obtain ⟨v23, hr24, hF⟩ := zc1_ hF
                    refine kCallSP C hw (A_X9_has l D cB cI cJ cZ ad x6 x17 v23 hr24) (va_cwS 2 C.2.2.2.2.2.2.1 (w0_S0 q5_52 q5_50 q5_51 q1_10) rfl rfl rfl ke_X9_has ⟨Nat.le_of_ble_eq_true rfl, Nat.le_of_ble_eq_true rfl⟩) hl.1 rfl rfl rfl (Nat.le_of_ble_eq_true rfl) ⟨Nat.le_of_ble_eq_true rfl, Nat.le_of_ble_eq_true rfl⟩ (dq dt_X9_rowOf 45 rfl) (fun H locs hw => ?_)
                    obtain ⟨K26, hK26, hF⟩ := zj1_ hF
                    have J26 : ∀ (y25 : Int32), K26 y25 = some r → ∀ (H : Heap) (locs : List Loc) (ls : Array Slot), kW D A s.heap [(a_m, .inr (9, [.ref a_m_row, .ref a_m_isKept, .ref a_m_text, .int m_length, .ref a_m_read, .int m_readMany, .int m_yards, .ref a_m_tides, .ref a_m_seeps, .int m_seepMany, .ref a_m_kinds, .ref a_m_paces, .ref a_m_ears, .int m_many, .int m_at, .int m_place, .int m_end, .int m_readYards, .int m_readSeeps, .int m_readChildren, .ref a_m_hearers, .ref a_m_chosen, .int m_chosenMany, .ref a_m_dues, .ref a_m_sights, .int m_seenMany])), (a_m_chosen, .inl (cI, 5, .inl m_chosen))] H locs → lv_has ls 9 [(0, .ref a_m), (2, .int p2), (3, .int x6), (4, .int x17), (5, .int x8), (6, .int x9), (7, .int x10)] → W p l e rm_X9_rowOf s m args below meth c H locs 0 0 Q (F0 m 92 ls [.int y25, .int x18]) := by
                      intro y25 hF H locs ls hw hl
                      replace hF := hK26 y25 hF
                      refine lv_isub hx hb (dq dt_X9_rowOf 50 rfl) ?_
                      obtain ⟨v27, ev27, hF⟩ := bd_ hF
                      refine kNmI ev27 ?_
                      refine lv_istore (lv' := [(8, .int v27), (0, .ref a_m), (2, .int p2), (3, .int x6), (4, .int x17), (5, .int x8), (6, .int x9), (7, .int x10)]) hx hb (dq dt_X9_rowOf 51 rfl) hl (by decide) rfl (fun ls hl => ?_)
                      obtain ⟨v28, ev28, hF⟩ := bd_ hF
                      refine lv_iinc (v := v28) (lv' := [(4, .int v28), (8, .int v27), (0, .ref a_m), (2, .int p2), (3, .int x6), (5, .int x8), (6, .int x9), (7, .int x10)]) hx hb (dq dt_X9_rowOf 52 rfl) hl (k := 4) rfl ev28.symm (by decide) rfl (fun ls hl => ?_)
                      refine lv_goto (tgt := 62) hx hb (dq dt_X9_rowOf 53 rfl) (by decide) ?_
                      exact ih19 v28 v27 hF _ _ _ hw (lv_sub hl [2, 3, 4, 0, 5, 6, 7, 1] rfl)
                    refine lv_if_eq (tgt := 91) hx hb (dq dt_X9_rowOf 46 rfl) (by decide) (fun c29 => ?_) (fun c29 => ?_)
                    · replace hF := if_t c29 hF
                      refine lv_iconst (v := (0 : Int32)) hx hb (dq dt_X9_rowOf 49 rfl) (by decide) ?_
                      exact J26 (0 : Int32) hF _ _ _ hw (lv_sub hl [0, 1, 2, 3, 4, 5, 6] rfl)
                    · replace hF := if_f c29 hF
                      refine lv_iconst (v := (1 : Int32)) hx hb (dq dt_X9_rowOf 47 rfl) (by decide) ?_
                      refine lv_goto (tgt := 92) hx hb (dq dt_X9_rowOf 48 rfl) (by decide) ?_
                      exact J26 (1 : Int32) hF _ _ _ hw (lv_sub hl [0, 1, 2, 3, 4, 5, 6] rfl)
                  refine lv_if_eq (tgt := 76) hx hb (dq dt_X9_rowOf 39 rfl) (by decide) (fun c30 => ?_) (fun c30 => ?_)
                  · replace hF := if_t c30 hF
                    exact J22 hF _ _ _ hw (lv_sub hl [0, 1, 2, 3, 4, 5, 6, 7] rfl)
                  · replace hF := if_f c30 hF
                    refine lv_iload hx hb (dq dt_X9_rowOf 40 rfl) (lv_at hl 7 rfl) ?_
                    refine lv_if_le (tgt := 101) hx hb (dq dt_X9_rowOf 41 rfl) (by decide) (fun c31 => ?_) (fun c31 => ?_)
                    · replace hF := if_t c31 hF
                      refine lv_iload hx hb (dq dt_X9_rowOf 54 rfl) (lv_at hl 4 rfl) ?_
                      refine lv_iload hx hb (dq dt_X9_rowOf 55 rfl) (lv_at hl 5 rfl) ?_
                      obtain ⟨hz32, hF⟩ := ckI_ hF
                      refine lv_irem hx hb (dq dt_X9_rowOf 56 rfl) hz32 ?_
                      obtain ⟨v33, ev33, hF⟩ := bd_ hF
                      refine kNmI ev33 ?_
                      refine lv_istore (lv' := [(5, .int v33), (0, .ref a_m), (2, .int p2), (3, .int x6), (4, .int x17), (6, .int x9), (7, .int x10), (8, .int x18)]) hx hb (dq dt_X9_rowOf 57 rfl) hl (by decide) rfl (fun ls hl => ?_)
                      refine lv_iload_n hx hb (dq dt_X9_rowOf 58 rfl) rfl (lv_at hl 3 rfl) ?_
                      refine lv_iconst (v := (1 : Int32)) hx hb (dq dt_X9_rowOf 59 rfl) (by decide) ?_
                      refine lv_iload hx hb (dq dt_X9_rowOf 60 rfl) (lv_at hl 4 rfl) ?_
                      refine lv_ishl hx hb (dq dt_X9_rowOf 61 rfl) ?_
                      refine lv_iconst (v := (-1 : Int32)) hx hb (dq dt_X9_rowOf 62 rfl) (by decide) ?_
                      refine lv_ixor hx hb (dq dt_X9_rowOf 63 rfl) ?_
                      refine lv_iand hx hb (dq dt_X9_rowOf 64 rfl) ?_
                      obtain ⟨v34, ev34, hF⟩ := bd_ hF
                      refine kNmI ev34 ?_
                      refine lv_istore_n (lv' := [(3, .int v34), (5, .int v33), (0, .ref a_m), (2, .int p2), (4, .int x17), (6, .int x9), (7, .int x10), (8, .int x18)]) hx hb (dq dt_X9_rowOf 65 rfl) rfl hl (by decide) rfl (fun ls hl => ?_)
                      refine lv_aload_n hx hb (dq dt_X9_rowOf 66 rfl) rfl (lv_at hl 2 rfl) ?_
                      refine kGet (ci := 9) C in_X9 hw 0 rfl rfl 22 (by decide) (C.2.2.2.2.2.2.1 _ q4_117) rfl rfl (dq dt_X9_rowOf 67 rfl) ?_
                      refine lv_iconst (v := (1 : Int32)) hx hb (dq dt_X9_rowOf 68 rfl) (by decide) ?_
                      refine lv_isub hx hb (dq dt_X9_rowOf 69 rfl) ?_
                      refine lv_iload hx hb (dq dt_X9_rowOf 70 rfl) (lv_at hl 6 rfl) ?_
                      refine lv_isub hx hb (dq dt_X9_rowOf 71 rfl) ?_
                      refine lv_if_le (tgt := 144) hx hb (dq dt_X9_rowOf 72 rfl) (by decide) (fun c35 => ?_) (fun c35 => ?_)
                      · replace hF := if_t c35 hF
                        refine lv_iconst (v := (1 : Int32)) hx hb (dq dt_X9_rowOf 82 rfl) (by decide) ?_
                        refine lv_istore (lv' := [(6, .int (1 : Int32)), (3, .int v34), (5, .int v33), (0, .ref a_m), (2, .int p2), (4, .int x17), (7, .int x10), (8, .int x18)]) hx hb (dq dt_X9_rowOf 83 rfl) hl (by decide) rfl (fun ls hl => ?_)
                        obtain ⟨v36, ev36, hF⟩ := bd_ hF
                        refine lv_iinc (v := v36) (lv' := [(7, .int v36), (6, .int (1 : Int32)), (3, .int v34), (5, .int v33), (0, .ref a_m), (2, .int p2), (4, .int x17), (8, .int x18)]) hx hb (dq dt_X9_rowOf 84 rfl) hl (k := 6) rfl ev36.symm (by decide) rfl (fun ls hl => ?_)
                        refine lv_goto (tgt := 46) hx hb (dq dt_X9_rowOf 85 rfl) (by decide) ?_
                        exact ih11 v34 x17 v33 (1 : Int32) v36 hF _ _ _ hw (lv_sub hl [4, 5, 2, 6, 3, 1, 0] rfl)
                      · replace hF := if_f c35 hF
                        refine lv_iload hx hb (dq dt_X9_rowOf 73 rfl) (lv_at hl 5 rfl) ?_
                        refine lv_aload_n hx hb (dq dt_X9_rowOf 74 rfl) rfl (lv_at hl 2 rfl) ?_
                        refine kGet (ci := 9) C in_X9 hw 0 rfl rfl 22 (by decide) (C.2.2.2.2.2.2.1 _ q4_117) rfl rfl (dq dt_X9_rowOf 75 rfl) ?_
                        refine lv_iconst (v := (1 : Int32)) hx hb (dq dt_X9_rowOf 76 rfl) (by decide) ?_
                        refine lv_isub hx hb (dq dt_X9_rowOf 77 rfl) ?_
                        refine lv_iload hx hb (dq dt_X9_rowOf 78 rfl) (lv_at hl 6 rfl) ?_
                        refine lv_isub hx hb (dq dt_X9_rowOf 79 rfl) ?_
                        obtain ⟨hz37, hF⟩ := ckI_ hF
                        refine lv_idiv hx hb (dq dt_X9_rowOf 80 rfl) hz37 ?_
                        refine lv_goto (tgt := 145) hx hb (dq dt_X9_rowOf 81 rfl) (by decide) ?_
                        obtain ⟨v38, ev38, hF⟩ := bd_ hF
                        refine kNmI ev38 ?_
                        refine lv_istore (lv' := [(6, .int v38), (3, .int v34), (5, .int v33), (0, .ref a_m), (2, .int p2), (4, .int x17), (7, .int x10), (8, .int x18)]) hx hb (dq dt_X9_rowOf 83 rfl) hl (by decide) rfl (fun ls hl => ?_)
                        obtain ⟨v39, ev39, hF⟩ := bd_ hF
                        refine lv_iinc (v := v39) (lv' := [(7, .int v39), (6, .int v38), (3, .int v34), (5, .int v33), (0, .ref a_m), (2, .int p2), (4, .int x17), (8, .int x18)]) hx hb (dq dt_X9_rowOf 84 rfl) hl (k := 6) rfl ev39.symm (by decide) rfl (fun ls hl => ?_)
                        refine lv_goto (tgt := 46) hx hb (dq dt_X9_rowOf 85 rfl) (by decide) ?_
                        exact ih11 v34 x17 v33 v38 v39 hF _ _ _ hw (lv_sub hl [4, 5, 2, 6, 3, 1, 0] rfl)
                    · replace hF := if_f c31 hF
                      exact J22 hF _ _ _ hw (lv_sub hl [0, 1, 2, 3, 4, 5, 6, 7] rfl)
              exact L19 _ (0 : Int32) v16 hF _ _ _ hw (lv_sub hl [2, 3, 4, 0, 5, 6, 7, 1] rfl)
        exact L11 _ v1 (-1 : Int32) p1 x2 (0 : Int32) hF _ _ _ hw (lv_sub hl [1, 2, 3, 4, 5, 6, 0] rfl)
      · replace hF := if_f c5 hF
        refine lv_iload hx hb (dq dt_X9_rowOf 19 rfl) (lv_at hl 5 rfl) ?_
        refine lv_iload hx hb (dq dt_X9_rowOf 20 rfl) (lv_at hl 6 rfl) ?_
        refine lv_imul hx hb (dq dt_X9_rowOf 21 rfl) ?_
        obtain ⟨v40, ev40, hF⟩ := bd_ hF
        refine kNmI ev40 ?_
        refine lv_istore (lv' := [(6, .int v40), (0, .ref a_m), (2, .int p2), (3, .int v1), (4, .int (-1 : Int32)), (5, .int p1), (7, .int x3)]) hx hb (dq dt_X9_rowOf 22 rfl) hl (by decide) rfl (fun ls hl => ?_)
        obtain ⟨v41, ev41, hF⟩ := bd_ hF
        refine lv_iinc (v := v41) (lv' := [(7, .int v41), (6, .int v40), (0, .ref a_m), (2, .int p2), (3, .int v1), (4, .int (-1 : Int32)), (5, .int p1)]) hx hb (dq dt_X9_rowOf 23 rfl) hl (k := 6) rfl ev41.symm (by decide) rfl (fun ls hl => ?_)
        refine lv_goto (tgt := 21) hx hb (dq dt_X9_rowOf 24 rfl) (by decide) ?_
        exact ih4 v40 v41 hF _ _ _ hw (lv_sub hl [2, 3, 4, 5, 6, 1, 0] rfl)
  exact L4 _ (1 : Int32) (2 : Int32) hF _ _ _ hw (lv_sub hl [5, 7, 4, 3, 2, 1, 0] rfl)
