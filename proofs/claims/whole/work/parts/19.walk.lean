def F_X9_dike (m_length : Int32) (m_readMany : Int32) (m_yards : Int32) (m_seepMany : Int32) (m_many : Int32) (m_at : Int32) (m_place : Int32) (m_end : Int32) (m_readYards : Int32) (m_readSeeps : Int32) (m_readChildren : Int32) (m_seenMany : Int32) (m_row : Nat → Int32) (m_isKept : Nat → Int32) (m_text : Nat → Int32) (m_read : Nat → Int32) (m_tides : Nat → Int32) (m_seeps : Nat → Int32) (m_kinds : Nat → Int32) (m_paces : Nat → Int32) (m_ears : Nat → Int32) : Option (Int32 × Int32 × Int32 × Int32 × Int32 × Int32 × Int32 × Int32 × Int32 × Int32 × Int32 × Int32 × Int32 × (Nat → Int32) × (Nat → Int32) × (Nat → Int32) × (Nat → Int32) × (Nat → Int32) × (Nat → Int32) × (Nat → Int32) × (Nat → Int32)) :=
  zc9 (F_X9_fault m_length m_readMany m_yards m_seepMany m_many m_at m_place m_end m_readYards m_readSeeps m_readChildren m_text m_read) (fun v1 g2 g3 g4 g5 g6 g7 g8 g9 => if v1 = (-1 : Int32) then (zl10 (fun x12 h13 h14 h15 h16 h17 h18 h19 h20 h21 ag22 => if g2 ≤ x12 then (zc1 (F_X9_copy h16 (76 : Int32) (0 : Int32)) (fun g24 => wr 2 (0 : Int32) (upd m_isKept ((0 : Int32)).toNatClampNeg (vp_nar .boolean (0 : Int32))) (fun g26 => wr 2 (1 : Int32) (upd g26 ((1 : Int32)).toNatClampNeg (vp_nar .boolean (0 : Int32))) (fun g28 => some (g2, (0 : Int32), g2, h13, h14, h15, g3, g4, g5, g6, g7, g8, (0 : Int32), g24, g28, g9, h17, h18, h19, h20, h21))))) else (bd ((5 : Int32) * x12) (fun v30 => zc9 (F_X9_tell h13 h14 h15 h16 g9 h17 h18 h19 h20 h21 v30) (fun g31 g32 g33 g34 g35 g36 g37 g38 g39 => bd (x12 + (1 : Int32)) (fun v41 => ag22 v41 g31 g32 g33 g34 g35 g36 g37 g38 g39))))) FU (0 : Int32) m_yards m_seepMany m_many m_row m_tides m_seeps m_kinds m_paces m_ears) else (some ((-4 : Int32), m_length, g2, m_yards, m_seepMany, m_many, g3, g4, g5, g6, g7, g8, m_seenMany, m_row, m_isKept, g9, m_tides, m_seeps, m_kinds, m_paces, m_ears)))
abbrev rm_X9_dike : Room := { frames := 6, cells := 0, slots := 0, locals := 129 }
theorem kd_X9_dike : yX9_dike.cls = RX9 ∧ yX9_dike.cls ≠ "java/lang/invoke/MethodHandle" ∧ yX9_dike.cls ≠ "java/lang/invoke/VarHandle" ∧ (parseMethodDescriptor yX9_dike.desc).map (fun d => d.parameters.length) = some 0 := by decide +kernel
set_option maxRecDepth 100000 in
set_option maxHeartbeats 4000000 in
theorem A_X9_dike (l : Launch) (D : va_G) (cB cI cJ cZ : ClassId) (ad : (Nat → Nat) × (Nat → Nat)) (a_m a_m_row a_m_isKept a_m_text a_m_read a_m_tides a_m_seeps a_m_kinds a_m_paces a_m_ears a_m_hearers a_m_chosen a_m_dues a_m_sights : Nat) (m_length : Int32) (m_readMany : Int32) (m_yards : Int32) (m_seepMany : Int32) (m_many : Int32) (m_at : Int32) (m_place : Int32) (m_end : Int32) (m_readYards : Int32) (m_readSeeps : Int32) (m_readChildren : Int32) (m_chosenMany : Int32) (m_seenMany : Int32) (m_row : Nat → Int32) (m_isKept : Nat → Int32) (m_text : Nat → Int32) (m_read : Nat → Int32) (m_tides : Nat → Int32) (m_seeps : Nat → Int32) (m_kinds : Nat → Int32) (m_paces : Nat → Int32) (m_ears : Nat → Int32) (r : Int32) (m_length' : Int32) (m_readMany' : Int32) (m_yards' : Int32) (m_seepMany' : Int32) (m_many' : Int32) (m_at' : Int32) (m_place' : Int32) (m_end' : Int32) (m_readYards' : Int32) (m_readSeeps' : Int32) (m_readChildren' : Int32) (m_seenMany' : Int32) (m_row' : Nat → Int32) (m_isKept' : Nat → Int32) (m_read' : Nat → Int32) (m_tides' : Nat → Int32) (m_seeps' : Nat → Int32) (m_kinds' : Nat → Int32) (m_paces' : Nat → Int32) (m_ears' : Nat → Int32) (hF : F_X9_dike m_length m_readMany m_yards m_seepMany m_many m_at m_place m_end m_readYards m_readSeeps m_readChildren m_seenMany m_row m_isKept m_text m_read m_tides m_seeps m_kinds m_paces m_ears = some (r, m_length', m_readMany', m_yards', m_seepMany', m_many', m_at', m_place', m_end', m_readYards', m_readSeeps', m_readChildren', m_seenMany', m_row', m_isKept', m_read', m_tides', m_seeps', m_kinds', m_paces', m_ears')) : kM l yX9_dike (Cond.code yX9_dike cX9_dike 2 (some .int) :: W0) rm_X9_dike D (kT cB cI cJ cZ) ad [.ref a_m] [(a_m, .inr (9, [.ref a_m_row, .ref a_m_isKept, .ref a_m_text, .int m_length, .ref a_m_read, .int m_readMany, .int m_yards, .ref a_m_tides, .ref a_m_seeps, .int m_seepMany, .ref a_m_kinds, .ref a_m_paces, .ref a_m_ears, .int m_many, .int m_at, .int m_place, .int m_end, .int m_readYards, .int m_readSeeps, .int m_readChildren, .ref a_m_hearers, .ref a_m_chosen, .int m_chosenMany, .ref a_m_dues, .ref a_m_sights, .int m_seenMany])), (a_m_row, .inl (cI, 95, .inl m_row)), (a_m_isKept, .inl (cZ, 2, .inl m_isKept)), (a_m_text, .inl (cI, 200, .inl m_text)), (a_m_read, .inl (cI, 60, .inl m_read)), (a_m_tides, .inl (cI, 12, .inl m_tides)), (a_m_seeps, .inl (cI, 18, .inl m_seeps)), (a_m_kinds, .inl (cI, 5, .inl m_kinds)), (a_m_paces, .inl (cI, 5, .inl m_paces)), (a_m_ears, .inl (cI, 5, .inl m_ears))] (some (.int r)) [(a_m, .inr (9, [.ref a_m_row, .ref a_m_isKept, .ref a_m_text, .int (m_length'), .ref a_m_read, .int (m_readMany'), .int (m_yards'), .ref a_m_tides, .ref a_m_seeps, .int (m_seepMany'), .ref a_m_kinds, .ref a_m_paces, .ref a_m_ears, .int (m_many'), .int (m_at'), .int (m_place'), .int (m_end'), .int (m_readYards'), .int (m_readSeeps'), .int (m_readChildren'), .ref a_m_hearers, .ref a_m_chosen, .int m_chosenMany, .ref a_m_dues, .ref a_m_sights, .int (m_seenMany')])), (a_m_row, .inl (cI, 95, .inl (m_row'))), (a_m_isKept, .inl (cZ, 2, .inl (m_isKept'))), (a_m_text, .inl (cI, 200, .inl m_text)), (a_m_read, .inl (cI, 60, .inl (m_read'))), (a_m_tides, .inl (cI, 12, .inl (m_tides'))), (a_m_seeps, .inl (cI, 18, .inl (m_seeps'))), (a_m_kinds, .inl (cI, 5, .inl (m_kinds'))), (a_m_paces, .inl (cI, 5, .inl (m_paces'))), (a_m_ears, .inl (cI, 5, .inl (m_ears')))] := by
  unfold F_X9_dike at hF
  refine kStart (lv := [(0, .ref a_m)]) (own := "DikeWatchModel") (plainFor_of_name (by decide)) rfl (Nat.le_of_ble_eq_true rfl) rfl ?_
  intro p e s m args below meth c A Q ls hQ C hx hb hw hl
  refine lv_aload_n hx hb (dq dt_X9_dike 0 rfl) rfl (lv_at hl 0 rfl) ?_
  obtain ⟨v1, g2, g3, g4, g5, g6, g7, g8, g9, hr10, hF⟩ := zc9_ hF
  refine kCallV (ws2 := [(a_m, .inr (9, [.ref a_m_row, .ref a_m_isKept, .ref a_m_text, .int m_length, .ref a_m_read, .int g2, .int m_yards, .ref a_m_tides, .ref a_m_seeps, .int m_seepMany, .ref a_m_kinds, .ref a_m_paces, .ref a_m_ears, .int m_many, .int g3, .int g4, .int g5, .int g6, .int g7, .int g8, .ref a_m_hearers, .ref a_m_chosen, .int m_chosenMany, .ref a_m_dues, .ref a_m_sights, .int m_seenMany])), (a_m_row, .inl (cI, 95, .inl m_row)), (a_m_isKept, .inl (cZ, 2, .inl m_isKept)), (a_m_text, .inl (cI, 200, .inl m_text)), (a_m_read, .inl (cI, 60, .inl g9)), (a_m_tides, .inl (cI, 12, .inl m_tides)), (a_m_seeps, .inl (cI, 18, .inl m_seeps)), (a_m_kinds, .inl (cI, 5, .inl m_kinds)), (a_m_paces, .inl (cI, 5, .inl m_paces)), (a_m_ears, .inl (cI, 5, .inl m_ears))]) C hw (A_X9_fault l D cB cI cJ cZ ad a_m a_m_row a_m_isKept a_m_text a_m_read a_m_tides a_m_seeps a_m_kinds a_m_paces a_m_ears a_m_hearers a_m_chosen a_m_dues a_m_sights m_length m_readMany m_yards m_seepMany m_many m_at m_place m_end m_readYards m_readSeeps m_readChildren m_chosenMany m_seenMany m_text m_read v1 g2 g3 g4 g5 g6 g7 g8 g9 hr10) (cwV 0 C.2.2.2.2.2.2.1 (w0_V0 q4_191 q5_0 q4_189 q4_190 q1_10) rfl rfl rfl kd_X9_fault ⟨Nat.le_of_ble_eq_true rfl, Nat.le_of_ble_eq_true rfl⟩) [0, 3, 4] rfl rfl rfl rfl 0 9 rfl rfl hl.1 rfl rfl rfl (Nat.le_of_ble_eq_true rfl) ⟨Nat.le_of_ble_eq_true rfl, Nat.le_of_ble_eq_true rfl⟩ (dq dt_X9_dike 1 rfl) (fun H locs hw => ?_)
  refine lv_iconst (v := (-1 : Int32)) hx hb (dq dt_X9_dike 2 rfl) (by decide) ?_
  refine lv_icmp_eq (tgt := 11) hx hb (dq dt_X9_dike 3 rfl) (by decide) (fun c11 => ?_) (fun c11 => ?_)
  · replace hF := if_t c11 hF
    refine lv_iconst (v := (0 : Int32)) hx hb (dq dt_X9_dike 6 rfl) (by decide) ?_
    refine lv_istore_n (lv' := [(1, .int (0 : Int32)), (0, .ref a_m)]) hx hb (dq dt_X9_dike 7 rfl) rfl hl (by decide) rfl (fun ls hl => ?_)
    obtain ⟨K22, hK022, hK22, hF⟩ := zl10_ hF
    have L22 : ∀ (n : Nat) (x12 : Int32) (h13 : Int32) (h14 : Int32) (h15 : Int32) (h16 : Nat → Int32) (h17 : Nat → Int32) (h18 : Nat → Int32) (h19 : Nat → Int32) (h20 : Nat → Int32) (h21 : Nat → Int32), K22 n x12 h13 h14 h15 h16 h17 h18 h19 h20 h21 = some (r, m_length', m_readMany', m_yards', m_seepMany', m_many', m_at', m_place', m_end', m_readYards', m_readSeeps', m_readChildren', m_seenMany', m_row', m_isKept', m_read', m_tides', m_seeps', m_kinds', m_paces', m_ears') → ∀ (H : Heap) (locs : List Loc) (ls : Array Slot), kW D A s.heap [(a_m, .inr (9, [.ref a_m_row, .ref a_m_isKept, .ref a_m_text, .int m_length, .ref a_m_read, .int g2, .int h13, .ref a_m_tides, .ref a_m_seeps, .int h14, .ref a_m_kinds, .ref a_m_paces, .ref a_m_ears, .int h15, .int g3, .int g4, .int g5, .int g6, .int g7, .int g8, .ref a_m_hearers, .ref a_m_chosen, .int m_chosenMany, .ref a_m_dues, .ref a_m_sights, .int m_seenMany])), (a_m_row, .inl (cI, 95, .inl h16)), (a_m_isKept, .inl (cZ, 2, .inl m_isKept)), (a_m_text, .inl (cI, 200, .inl m_text)), (a_m_read, .inl (cI, 60, .inl g9)), (a_m_tides, .inl (cI, 12, .inl h17)), (a_m_seeps, .inl (cI, 18, .inl h18)), (a_m_kinds, .inl (cI, 5, .inl h19)), (a_m_paces, .inl (cI, 5, .inl h20)), (a_m_ears, .inl (cI, 5, .inl h21))] H locs → lv_has ls 2 [(0, .ref a_m), (1, .int x12)] → W p l e rm_X9_dike s m args below meth c H locs 0 0 Q (F0 m 13 ls []) := by
      intro n
      induction n with
      | zero => intro x12 h13 h14 h15 h16 h17 h18 h19 h20 h21 hF; exact (lp_no (hK022 x12 h13 h14 h15 h16 h17 h18 h19 h20 h21) hF).elim
      | succ n ih22 =>
        intro x12 h13 h14 h15 h16 h17 h18 h19 h20 h21 hF H locs ls hw hl
        replace hF := hK22 n x12 h13 h14 h15 h16 h17 h18 h19 h20 h21 hF
        refine lv_iload_n hx hb (dq dt_X9_dike 8 rfl) rfl (lv_at hl 1 rfl) ?_
        refine lv_aload_n hx hb (dq dt_X9_dike 9 rfl) rfl (lv_at hl 0 rfl) ?_
        refine kGet (ci := 9) C in_X9 hw 0 rfl rfl 5 (by decide) (C.2.2.2.2.2.2.1 _ q4_100) rfl rfl (dq dt_X9_dike 10 rfl) ?_
        refine lv_icmp_ge (tgt := 34) hx hb (dq dt_X9_dike 11 rfl) (by decide) (fun c23 => ?_) (fun c23 => ?_)
        · replace hF := if_t c23 hF
          refine lv_aload_n hx hb (dq dt_X9_dike 19 rfl) rfl (lv_at hl 0 rfl) ?_
          refine lv_bipush (v := (76 : Int32)) hx hb (dq dt_X9_dike 20 rfl) (by decide) ?_
          refine lv_iconst (v := (0 : Int32)) hx hb (dq dt_X9_dike 21 rfl) (by decide) ?_
          obtain ⟨g24, hr25, hF⟩ := zc1_ hF
          refine kCallV (ws2 := [(a_m, .inr (9, [.ref a_m_row, .ref a_m_isKept, .ref a_m_text, .int m_length, .ref a_m_read, .int g2, .int h13, .ref a_m_tides, .ref a_m_seeps, .int h14, .ref a_m_kinds, .ref a_m_paces, .ref a_m_ears, .int h15, .int g3, .int g4, .int g5, .int g6, .int g7, .int g8, .ref a_m_hearers, .ref a_m_chosen, .int m_chosenMany, .ref a_m_dues, .ref a_m_sights, .int m_seenMany])), (a_m_row, .inl (cI, 95, .inl g24)), (a_m_isKept, .inl (cZ, 2, .inl m_isKept)), (a_m_text, .inl (cI, 200, .inl m_text)), (a_m_read, .inl (cI, 60, .inl g9)), (a_m_tides, .inl (cI, 12, .inl h17)), (a_m_seeps, .inl (cI, 18, .inl h18)), (a_m_kinds, .inl (cI, 5, .inl h19)), (a_m_paces, .inl (cI, 5, .inl h20)), (a_m_ears, .inl (cI, 5, .inl h21))]) C hw (A_X9_copy l D cB cI cJ cZ ad a_m a_m_row a_m_isKept a_m_text a_m_read a_m_tides a_m_seeps a_m_kinds a_m_paces a_m_ears a_m_hearers a_m_chosen a_m_dues a_m_sights m_length g2 h13 h14 h15 g3 g4 g5 g6 g7 g8 m_chosenMany m_seenMany h16 (76 : Int32) (0 : Int32) g24 hr25) (cwV 2 C.2.2.2.2.2.2.1 (w0_V0 q5_12 q5_9 q5_11 (ws0 31 rfl) q1_10) rfl rfl rfl kd_X9_copy ⟨Nat.le_of_ble_eq_true rfl, Nat.le_of_ble_eq_true rfl⟩) [0, 1] rfl rfl rfl rfl 0 9 rfl rfl hl.1 rfl rfl rfl (Nat.le_of_ble_eq_true rfl) ⟨Nat.le_of_ble_eq_true rfl, Nat.le_of_ble_eq_true rfl⟩ (dq dt_X9_dike 22 rfl) (fun H locs hw => ?_)
          refine lv_aload_n hx hb (dq dt_X9_dike 23 rfl) rfl (lv_at hl 0 rfl) ?_
          refine lv_iconst (v := (0 : Int32)) hx hb (dq dt_X9_dike 24 rfl) (by decide) ?_
          refine kPut (ci := 9) (ws' := [(a_m, .inr (9, [.ref a_m_row, .ref a_m_isKept, .ref a_m_text, .int m_length, .ref a_m_read, .int g2, .int h13, .ref a_m_tides, .ref a_m_seeps, .int h14, .ref a_m_kinds, .ref a_m_paces, .ref a_m_ears, .int h15, .int g3, .int g4, .int g5, .int g6, .int g7, .int g8, .ref a_m_hearers, .ref a_m_chosen, .int m_chosenMany, .ref a_m_dues, .ref a_m_sights, .int (0 : Int32)])), (a_m_row, .inl (cI, 95, .inl g24)), (a_m_isKept, .inl (cZ, 2, .inl m_isKept)), (a_m_text, .inl (cI, 200, .inl m_text)), (a_m_read, .inl (cI, 60, .inl g9)), (a_m_tides, .inl (cI, 12, .inl h17)), (a_m_seeps, .inl (cI, 18, .inl h18)), (a_m_kinds, .inl (cI, 5, .inl h19)), (a_m_paces, .inl (cI, 5, .inl h20)), (a_m_ears, .inl (cI, 5, .inl h21))]) C in_X9 tyX9 tyX9_ok nmX9 hw 0 rfl rfl 25 (by decide) (C.2.2.2.2.2.2.1 _ q4_120) rfl rfl rfl rfl (Nat.le_of_ble_eq_true rfl) rfl (dq dt_X9_dike 25 rfl) (fun H locs hw => ?_)
          refine lv_aload_n hx hb (dq dt_X9_dike 26 rfl) rfl (lv_at hl 0 rfl) ?_
          refine kGet (ci := 9) C in_X9 hw 0 rfl rfl 1 (by decide) (C.2.2.2.2.2.2.1 _ q4_96) rfl rfl (dq dt_X9_dike 27 rfl) ?_
          refine lv_iconst (v := (0 : Int32)) hx hb (dq dt_X9_dike 28 rfl) (by decide) ?_
          refine lv_iconst (v := (0 : Int32)) hx hb (dq dt_X9_dike 29 rfl) (by decide) ?_
          obtain ⟨g26, eg26, hi27, hF⟩ := wr_ hF
          refine kZast (ws' := [(a_m, .inr (9, [.ref a_m_row, .ref a_m_isKept, .ref a_m_text, .int m_length, .ref a_m_read, .int g2, .int h13, .ref a_m_tides, .ref a_m_seeps, .int h14, .ref a_m_kinds, .ref a_m_paces, .ref a_m_ears, .int h15, .int g3, .int g4, .int g5, .int g6, .int g7, .int g8, .ref a_m_hearers, .ref a_m_chosen, .int m_chosenMany, .ref a_m_dues, .ref a_m_sights, .int (0 : Int32)])), (a_m_row, .inl (cI, 95, .inl g24)), (a_m_isKept, .inl (cZ, 2, .inl g26)), (a_m_text, .inl (cI, 200, .inl m_text)), (a_m_read, .inl (cI, 60, .inl g9)), (a_m_tides, .inl (cI, 12, .inl h17)), (a_m_seeps, .inl (cI, 18, .inl h18)), (a_m_kinds, .inl (cI, 5, .inl h19)), (a_m_paces, .inl (cI, 5, .inl h20)), (a_m_ears, .inl (cI, 5, .inl h21))]) C hw 2 3 rfl rfl hi27 eg26 rfl (dq dt_X9_dike 30 rfl) (fun H locs hw => ?_)
          refine lv_aload_n hx hb (dq dt_X9_dike 31 rfl) rfl (lv_at hl 0 rfl) ?_
          refine kGet (ci := 9) C in_X9 hw 0 rfl rfl 1 (by decide) (C.2.2.2.2.2.2.1 _ q4_96) rfl rfl (dq dt_X9_dike 32 rfl) ?_
          refine lv_iconst (v := (1 : Int32)) hx hb (dq dt_X9_dike 33 rfl) (by decide) ?_
          refine lv_iconst (v := (0 : Int32)) hx hb (dq dt_X9_dike 34 rfl) (by decide) ?_
          obtain ⟨g28, eg28, hi29, hF⟩ := wr_ hF
          refine kZast (ws' := [(a_m, .inr (9, [.ref a_m_row, .ref a_m_isKept, .ref a_m_text, .int m_length, .ref a_m_read, .int g2, .int h13, .ref a_m_tides, .ref a_m_seeps, .int h14, .ref a_m_kinds, .ref a_m_paces, .ref a_m_ears, .int h15, .int g3, .int g4, .int g5, .int g6, .int g7, .int g8, .ref a_m_hearers, .ref a_m_chosen, .int m_chosenMany, .ref a_m_dues, .ref a_m_sights, .int (0 : Int32)])), (a_m_row, .inl (cI, 95, .inl g24)), (a_m_isKept, .inl (cZ, 2, .inl g28)), (a_m_text, .inl (cI, 200, .inl m_text)), (a_m_read, .inl (cI, 60, .inl g9)), (a_m_tides, .inl (cI, 12, .inl h17)), (a_m_seeps, .inl (cI, 18, .inl h18)), (a_m_kinds, .inl (cI, 5, .inl h19)), (a_m_paces, .inl (cI, 5, .inl h20)), (a_m_ears, .inl (cI, 5, .inl h21))]) C hw 2 3 rfl rfl hi29 eg28 rfl (dq dt_X9_dike 35 rfl) (fun H locs hw => ?_)
          refine lv_aload_n hx hb (dq dt_X9_dike 36 rfl) rfl (lv_at hl 0 rfl) ?_
          refine lv_iconst (v := (0 : Int32)) hx hb (dq dt_X9_dike 37 rfl) (by decide) ?_
          refine kPut (ci := 9) (ws' := [(a_m, .inr (9, [.ref a_m_row, .ref a_m_isKept, .ref a_m_text, .int (0 : Int32), .ref a_m_read, .int g2, .int h13, .ref a_m_tides, .ref a_m_seeps, .int h14, .ref a_m_kinds, .ref a_m_paces, .ref a_m_ears, .int h15, .int g3, .int g4, .int g5, .int g6, .int g7, .int g8, .ref a_m_hearers, .ref a_m_chosen, .int m_chosenMany, .ref a_m_dues, .ref a_m_sights, .int (0 : Int32)])), (a_m_row, .inl (cI, 95, .inl g24)), (a_m_isKept, .inl (cZ, 2, .inl g28)), (a_m_text, .inl (cI, 200, .inl m_text)), (a_m_read, .inl (cI, 60, .inl g9)), (a_m_tides, .inl (cI, 12, .inl h17)), (a_m_seeps, .inl (cI, 18, .inl h18)), (a_m_kinds, .inl (cI, 5, .inl h19)), (a_m_paces, .inl (cI, 5, .inl h20)), (a_m_ears, .inl (cI, 5, .inl h21))]) C in_X9 tyX9 tyX9_ok nmX9 hw 0 rfl rfl 3 (by decide) (C.2.2.2.2.2.2.1 _ q4_98) rfl rfl rfl rfl (Nat.le_of_ble_eq_true rfl) rfl (dq dt_X9_dike 38 rfl) (fun H locs hw => ?_)
          refine lv_aload_n hx hb (dq dt_X9_dike 39 rfl) rfl (lv_at hl 0 rfl) ?_
          refine kGet (ci := 9) C in_X9 hw 0 rfl rfl 5 (by decide) (C.2.2.2.2.2.2.1 _ q4_100) rfl rfl (dq dt_X9_dike 40 rfl) ?_
          cases hF
          exact kRetI hQ C hw (dq dt_X9_dike 41 rfl)
        · replace hF := if_f c23 hF
          refine lv_aload_n hx hb (dq dt_X9_dike 12 rfl) rfl (lv_at hl 0 rfl) ?_
          refine lv_iconst (v := (5 : Int32)) hx hb (dq dt_X9_dike 13 rfl) (by decide) ?_
          refine lv_iload_n hx hb (dq dt_X9_dike 14 rfl) rfl (lv_at hl 1 rfl) ?_
          refine lv_imul hx hb (dq dt_X9_dike 15 rfl) ?_
          obtain ⟨v30, ev30, hF⟩ := bd_ hF
          refine kNmI ev30 ?_
          obtain ⟨g31, g32, g33, g34, g35, g36, g37, g38, g39, hr40, hF⟩ := zc9_ hF
          refine kCallV (ws2 := [(a_m, .inr (9, [.ref a_m_row, .ref a_m_isKept, .ref a_m_text, .int m_length, .ref a_m_read, .int g2, .int g31, .ref a_m_tides, .ref a_m_seeps, .int g32, .ref a_m_kinds, .ref a_m_paces, .ref a_m_ears, .int g33, .int g3, .int g4, .int g5, .int g6, .int g7, .int g8, .ref a_m_hearers, .ref a_m_chosen, .int m_chosenMany, .ref a_m_dues, .ref a_m_sights, .int m_seenMany])), (a_m_row, .inl (cI, 95, .inl g34)), (a_m_isKept, .inl (cZ, 2, .inl m_isKept)), (a_m_text, .inl (cI, 200, .inl m_text)), (a_m_read, .inl (cI, 60, .inl g9)), (a_m_tides, .inl (cI, 12, .inl g35)), (a_m_seeps, .inl (cI, 18, .inl g36)), (a_m_kinds, .inl (cI, 5, .inl g37)), (a_m_paces, .inl (cI, 5, .inl g38)), (a_m_ears, .inl (cI, 5, .inl g39))]) C hw (A_X9_tell l D cB cI cJ cZ ad a_m a_m_row a_m_isKept a_m_text a_m_read a_m_tides a_m_seeps a_m_kinds a_m_paces a_m_ears a_m_hearers a_m_chosen a_m_dues a_m_sights m_length g2 h13 h14 h15 g3 g4 g5 g6 g7 g8 m_chosenMany m_seenMany h16 g9 h17 h18 h19 h20 h21 v30 g31 g32 g33 g34 g35 g36 g37 g38 g39 hr40) (cwV 1 C.2.2.2.2.2.2.1 (w0_V0 q5_4 q5_1 q5_3 (ws0 29 rfl) q1_10) rfl rfl rfl kd_X9_tell ⟨Nat.le_of_ble_eq_true rfl, Nat.le_of_ble_eq_true rfl⟩) [0, 1, 4, 5, 6, 7, 8, 9] rfl rfl rfl rfl 0 9 rfl rfl hl.1 rfl rfl rfl (Nat.le_of_ble_eq_true rfl) ⟨Nat.le_of_ble_eq_true rfl, Nat.le_of_ble_eq_true rfl⟩ (dq dt_X9_dike 16 rfl) (fun H locs hw => ?_)
          obtain ⟨v41, ev41, hF⟩ := bd_ hF
          refine lv_iinc (v := v41) (lv' := [(1, .int v41), (0, .ref a_m)]) hx hb (dq dt_X9_dike 17 rfl) hl (k := 1) rfl ev41.symm (by decide) rfl (fun ls hl => ?_)
          refine lv_goto (tgt := 13) hx hb (dq dt_X9_dike 18 rfl) (by decide) ?_
          exact ih22 v41 g31 g32 g33 g34 g35 g36 g37 g38 g39 hF _ _ _ hw (lv_sub hl [1, 0] rfl)
    exact L22 _ (0 : Int32) m_yards m_seepMany m_many m_row m_tides m_seeps m_kinds m_paces m_ears hF _ _ _ hw (lv_sub hl [1, 0] rfl)
  · replace hF := if_f c11 hF
    refine lv_bipush (v := (-4 : Int32)) hx hb (dq dt_X9_dike 4 rfl) (by decide) ?_
    cases hF
    exact kRetI hQ C hw (dq dt_X9_dike 5 rfl)
def F_X9_isYard (m_yards : Int32) (p1 : Int32) : Option (Int32) :=
  bd ((m_yards - (1 : Int32)).toInt64) (fun v1 => zc1 (F_X9_in (p1.toInt64) (0 : Int64) v1) (fun v2 => ckZ v2 (some v2)))
abbrev rm_X9_isYard : Room := { frames := 1, cells := 0, slots := 0, locals := 25 }
theorem kd_X9_isYard : yX9_isYard.cls = RX9 ∧ yX9_isYard.cls ≠ "java/lang/invoke/MethodHandle" ∧ yX9_isYard.cls ≠ "java/lang/invoke/VarHandle" ∧ (parseMethodDescriptor yX9_isYard.desc).map (fun d => d.parameters.length) = some 1 := by decide +kernel
set_option maxRecDepth 100000 in
set_option maxHeartbeats 4000000 in
theorem A_X9_isYard (l : Launch) (D : va_G) (cB cI cJ cZ : ClassId) (ad : (Nat → Nat) × (Nat → Nat)) (a_m a_m_row a_m_isKept a_m_text a_m_read a_m_tides a_m_seeps a_m_kinds a_m_paces a_m_ears a_m_hearers a_m_chosen a_m_dues a_m_sights : Nat) (m_length : Int32) (m_readMany : Int32) (m_yards : Int32) (m_seepMany : Int32) (m_many : Int32) (m_at : Int32) (m_place : Int32) (m_end : Int32) (m_readYards : Int32) (m_readSeeps : Int32) (m_readChildren : Int32) (m_chosenMany : Int32) (m_seenMany : Int32) (p1 : Int32) (r : Int32) (hF : F_X9_isYard m_yards p1 = some r) : kM l yX9_isYard (Cond.code yX9_isYard cX9_isYard 2 (some .boolean) :: W0) rm_X9_isYard D (kT cB cI cJ cZ) ad [.ref a_m, .int p1] [(a_m, .inr (9, [.ref a_m_row, .ref a_m_isKept, .ref a_m_text, .int m_length, .ref a_m_read, .int m_readMany, .int m_yards, .ref a_m_tides, .ref a_m_seeps, .int m_seepMany, .ref a_m_kinds, .ref a_m_paces, .ref a_m_ears, .int m_many, .int m_at, .int m_place, .int m_end, .int m_readYards, .int m_readSeeps, .int m_readChildren, .ref a_m_hearers, .ref a_m_chosen, .int m_chosenMany, .ref a_m_dues, .ref a_m_sights, .int m_seenMany]))] (some (.int r)) [(a_m, .inr (9, [.ref a_m_row, .ref a_m_isKept, .ref a_m_text, .int m_length, .ref a_m_read, .int m_readMany, .int m_yards, .ref a_m_tides, .ref a_m_seeps, .int m_seepMany, .ref a_m_kinds, .ref a_m_paces, .ref a_m_ears, .int m_many, .int m_at, .int m_place, .int m_end, .int m_readYards, .int m_readSeeps, .int m_readChildren, .ref a_m_hearers, .ref a_m_chosen, .int m_chosenMany, .ref a_m_dues, .ref a_m_sights, .int m_seenMany]))] := by
  unfold F_X9_isYard at hF
  refine kStart (lv := [(0, .ref a_m), (1, .int p1)]) (own := "DikeWatchModel") (plainFor_of_name (by decide)) rfl (Nat.le_of_ble_eq_true rfl) rfl ?_
  intro p e s m args below meth c A Q ls hQ C hx hb hw hl
  refine lv_iload_n hx hb (dq dt_X9_isYard 0 rfl) rfl (lv_at hl 1 rfl) ?_
  refine lv_i2l (v := (p1.toInt64)) hx hb (dq dt_X9_isYard 1 rfl) rfl ?_
  refine lv_lconst (v := (0 : Int64)) hx hb (dq dt_X9_isYard 2 rfl) (by decide) ?_
  refine lv_aload_n hx hb (dq dt_X9_isYard 3 rfl) rfl (lv_at hl 0 rfl) ?_
  refine kGet (ci := 9) C in_X9 hw 0 rfl rfl 6 (by decide) (C.2.2.2.2.2.2.1 _ q4_101) rfl rfl (dq dt_X9_isYard 4 rfl) ?_
  refine lv_iconst (v := (1 : Int32)) hx hb (dq dt_X9_isYard 5 rfl) (by decide) ?_
  refine lv_isub hx hb (dq dt_X9_isYard 6 rfl) ?_
  refine lv_i2l (v := ((m_yards - (1 : Int32)).toInt64)) hx hb (dq dt_X9_isYard 7 rfl) rfl ?_
  obtain ⟨v1, ev1, hF⟩ := bd_ hF
  refine kNmL ev1 ?_
  obtain ⟨v2, hr3, hF⟩ := zc1_ hF
  refine kCallSP C hw (A_X9_in l D cB cI cJ cZ ad (p1.toInt64) (0 : Int64) v1 v2 hr3) (va_cwS 3 C.2.2.2.2.2.2.1 (w0_S0 q4_182 q4_180 q4_181 q1_10) rfl rfl rfl ke_X9_in ⟨Nat.le_of_ble_eq_true rfl, Nat.le_of_ble_eq_true rfl⟩) hl.1 rfl rfl rfl (Nat.le_of_ble_eq_true rfl) ⟨Nat.le_of_ble_eq_true rfl, Nat.le_of_ble_eq_true rfl⟩ (dq dt_X9_isYard 8 rfl) (fun H locs hw => ?_)
  obtain ⟨hn, hF⟩ := ckZ_ hF
  cases hF
  exact kRetZ hQ C hn hw (dq dt_X9_isYard 9 rfl)
def F_X9_isSeep (m_seepMany : Int32) (p1 : Int32) : Option (Int32) :=
  bd ((m_seepMany - (1 : Int32)).toInt64) (fun v1 => zc1 (F_X9_in (p1.toInt64) (0 : Int64) v1) (fun v2 => ckZ v2 (some v2)))
abbrev rm_X9_isSeep : Room := { frames := 1, cells := 0, slots := 0, locals := 25 }
theorem kd_X9_isSeep : yX9_isSeep.cls = RX9 ∧ yX9_isSeep.cls ≠ "java/lang/invoke/MethodHandle" ∧ yX9_isSeep.cls ≠ "java/lang/invoke/VarHandle" ∧ (parseMethodDescriptor yX9_isSeep.desc).map (fun d => d.parameters.length) = some 1 := by decide +kernel
set_option maxRecDepth 100000 in
set_option maxHeartbeats 4000000 in
theorem A_X9_isSeep (l : Launch) (D : va_G) (cB cI cJ cZ : ClassId) (ad : (Nat → Nat) × (Nat → Nat)) (a_m a_m_row a_m_isKept a_m_text a_m_read a_m_tides a_m_seeps a_m_kinds a_m_paces a_m_ears a_m_hearers a_m_chosen a_m_dues a_m_sights : Nat) (m_length : Int32) (m_readMany : Int32) (m_yards : Int32) (m_seepMany : Int32) (m_many : Int32) (m_at : Int32) (m_place : Int32) (m_end : Int32) (m_readYards : Int32) (m_readSeeps : Int32) (m_readChildren : Int32) (m_chosenMany : Int32) (m_seenMany : Int32) (p1 : Int32) (r : Int32) (hF : F_X9_isSeep m_seepMany p1 = some r) : kM l yX9_isSeep (Cond.code yX9_isSeep cX9_isSeep 2 (some .boolean) :: W0) rm_X9_isSeep D (kT cB cI cJ cZ) ad [.ref a_m, .int p1] [(a_m, .inr (9, [.ref a_m_row, .ref a_m_isKept, .ref a_m_text, .int m_length, .ref a_m_read, .int m_readMany, .int m_yards, .ref a_m_tides, .ref a_m_seeps, .int m_seepMany, .ref a_m_kinds, .ref a_m_paces, .ref a_m_ears, .int m_many, .int m_at, .int m_place, .int m_end, .int m_readYards, .int m_readSeeps, .int m_readChildren, .ref a_m_hearers, .ref a_m_chosen, .int m_chosenMany, .ref a_m_dues, .ref a_m_sights, .int m_seenMany]))] (some (.int r)) [(a_m, .inr (9, [.ref a_m_row, .ref a_m_isKept, .ref a_m_text, .int m_length, .ref a_m_read, .int m_readMany, .int m_yards, .ref a_m_tides, .ref a_m_seeps, .int m_seepMany, .ref a_m_kinds, .ref a_m_paces, .ref a_m_ears, .int m_many, .int m_at, .int m_place, .int m_end, .int m_readYards, .int m_readSeeps, .int m_readChildren, .ref a_m_hearers, .ref a_m_chosen, .int m_chosenMany, .ref a_m_dues, .ref a_m_sights, .int m_seenMany]))] := by
  unfold F_X9_isSeep at hF
  refine kStart (lv := [(0, .ref a_m), (1, .int p1)]) (own := "DikeWatchModel") (plainFor_of_name (by decide)) rfl (Nat.le_of_ble_eq_true rfl) rfl ?_
  intro p e s m args below meth c A Q ls hQ C hx hb hw hl
  refine lv_iload_n hx hb (dq dt_X9_isSeep 0 rfl) rfl (lv_at hl 1 rfl) ?_
  refine lv_i2l (v := (p1.toInt64)) hx hb (dq dt_X9_isSeep 1 rfl) rfl ?_
  refine lv_lconst (v := (0 : Int64)) hx hb (dq dt_X9_isSeep 2 rfl) (by decide) ?_
  refine lv_aload_n hx hb (dq dt_X9_isSeep 3 rfl) rfl (lv_at hl 0 rfl) ?_
  refine kGet (ci := 9) C in_X9 hw 0 rfl rfl 9 (by decide) (C.2.2.2.2.2.2.1 _ q4_104) rfl rfl (dq dt_X9_isSeep 4 rfl) ?_
  refine lv_iconst (v := (1 : Int32)) hx hb (dq dt_X9_isSeep 5 rfl) (by decide) ?_
  refine lv_isub hx hb (dq dt_X9_isSeep 6 rfl) ?_
  refine lv_i2l (v := ((m_seepMany - (1 : Int32)).toInt64)) hx hb (dq dt_X9_isSeep 7 rfl) rfl ?_
  obtain ⟨v1, ev1, hF⟩ := bd_ hF
  refine kNmL ev1 ?_
  obtain ⟨v2, hr3, hF⟩ := zc1_ hF
  refine kCallSP C hw (A_X9_in l D cB cI cJ cZ ad (p1.toInt64) (0 : Int64) v1 v2 hr3) (va_cwS 3 C.2.2.2.2.2.2.1 (w0_S0 q4_182 q4_180 q4_181 q1_10) rfl rfl rfl ke_X9_in ⟨Nat.le_of_ble_eq_true rfl, Nat.le_of_ble_eq_true rfl⟩) hl.1 rfl rfl rfl (Nat.le_of_ble_eq_true rfl) ⟨Nat.le_of_ble_eq_true rfl, Nat.le_of_ble_eq_true rfl⟩ (dq dt_X9_isSeep 8 rfl) (fun H locs hw => ?_)
  obtain ⟨hn, hF⟩ := ckZ_ hF
  cases hF
  exact kRetZ hQ C hn hw (dq dt_X9_isSeep 9 rfl)
def F_X9_isChild (m_many : Int32) (p1 : Int32) : Option (Int32) :=
  bd ((m_many - (1 : Int32)).toInt64) (fun v1 => zc1 (F_X9_in (p1.toInt64) (0 : Int64) v1) (fun v2 => ckZ v2 (some v2)))
abbrev rm_X9_isChild : Room := { frames := 1, cells := 0, slots := 0, locals := 25 }
theorem kd_X9_isChild : yX9_isChild.cls = RX9 ∧ yX9_isChild.cls ≠ "java/lang/invoke/MethodHandle" ∧ yX9_isChild.cls ≠ "java/lang/invoke/VarHandle" ∧ (parseMethodDescriptor yX9_isChild.desc).map (fun d => d.parameters.length) = some 1 := by decide +kernel
set_option maxRecDepth 100000 in
set_option maxHeartbeats 4000000 in
theorem A_X9_isChild (l : Launch) (D : va_G) (cB cI cJ cZ : ClassId) (ad : (Nat → Nat) × (Nat → Nat)) (a_m a_m_row a_m_isKept a_m_text a_m_read a_m_tides a_m_seeps a_m_kinds a_m_paces a_m_ears a_m_hearers a_m_chosen a_m_dues a_m_sights : Nat) (m_length : Int32) (m_readMany : Int32) (m_yards : Int32) (m_seepMany : Int32) (m_many : Int32) (m_at : Int32) (m_place : Int32) (m_end : Int32) (m_readYards : Int32) (m_readSeeps : Int32) (m_readChildren : Int32) (m_chosenMany : Int32) (m_seenMany : Int32) (p1 : Int32) (r : Int32) (hF : F_X9_isChild m_many p1 = some r) : kM l yX9_isChild (Cond.code yX9_isChild cX9_isChild 2 (some .boolean) :: W0) rm_X9_isChild D (kT cB cI cJ cZ) ad [.ref a_m, .int p1] [(a_m, .inr (9, [.ref a_m_row, .ref a_m_isKept, .ref a_m_text, .int m_length, .ref a_m_read, .int m_readMany, .int m_yards, .ref a_m_tides, .ref a_m_seeps, .int m_seepMany, .ref a_m_kinds, .ref a_m_paces, .ref a_m_ears, .int m_many, .int m_at, .int m_place, .int m_end, .int m_readYards, .int m_readSeeps, .int m_readChildren, .ref a_m_hearers, .ref a_m_chosen, .int m_chosenMany, .ref a_m_dues, .ref a_m_sights, .int m_seenMany]))] (some (.int r)) [(a_m, .inr (9, [.ref a_m_row, .ref a_m_isKept, .ref a_m_text, .int m_length, .ref a_m_read, .int m_readMany, .int m_yards, .ref a_m_tides, .ref a_m_seeps, .int m_seepMany, .ref a_m_kinds, .ref a_m_paces, .ref a_m_ears, .int m_many, .int m_at, .int m_place, .int m_end, .int m_readYards, .int m_readSeeps, .int m_readChildren, .ref a_m_hearers, .ref a_m_chosen, .int m_chosenMany, .ref a_m_dues, .ref a_m_sights, .int m_seenMany]))] := by
  unfold F_X9_isChild at hF
  refine kStart (lv := [(0, .ref a_m), (1, .int p1)]) (own := "DikeWatchModel") (plainFor_of_name (by decide)) rfl (Nat.le_of_ble_eq_true rfl) rfl ?_
  intro p e s m args below meth c A Q ls hQ C hx hb hw hl
  refine lv_iload_n hx hb (dq dt_X9_isChild 0 rfl) rfl (lv_at hl 1 rfl) ?_
  refine lv_i2l (v := (p1.toInt64)) hx hb (dq dt_X9_isChild 1 rfl) rfl ?_
  refine lv_lconst (v := (0 : Int64)) hx hb (dq dt_X9_isChild 2 rfl) (by decide) ?_
  refine lv_aload_n hx hb (dq dt_X9_isChild 3 rfl) rfl (lv_at hl 0 rfl) ?_
  refine kGet (ci := 9) C in_X9 hw 0 rfl rfl 13 (by decide) (C.2.2.2.2.2.2.1 _ q4_108) rfl rfl (dq dt_X9_isChild 4 rfl) ?_
  refine lv_iconst (v := (1 : Int32)) hx hb (dq dt_X9_isChild 5 rfl) (by decide) ?_
  refine lv_isub hx hb (dq dt_X9_isChild 6 rfl) ?_
  refine lv_i2l (v := ((m_many - (1 : Int32)).toInt64)) hx hb (dq dt_X9_isChild 7 rfl) rfl ?_
  obtain ⟨v1, ev1, hF⟩ := bd_ hF
  refine kNmL ev1 ?_
  obtain ⟨v2, hr3, hF⟩ := zc1_ hF
  refine kCallSP C hw (A_X9_in l D cB cI cJ cZ ad (p1.toInt64) (0 : Int64) v1 v2 hr3) (va_cwS 3 C.2.2.2.2.2.2.1 (w0_S0 q4_182 q4_180 q4_181 q1_10) rfl rfl rfl ke_X9_in ⟨Nat.le_of_ble_eq_true rfl, Nat.le_of_ble_eq_true rfl⟩) hl.1 rfl rfl rfl (Nat.le_of_ble_eq_true rfl) ⟨Nat.le_of_ble_eq_true rfl, Nat.le_of_ble_eq_true rfl⟩ (dq dt_X9_isChild 8 rfl) (fun H locs hw => ?_)
  obtain ⟨hn, hF⟩ := ckZ_ hF
  cases hF
  exact kRetZ hQ C hn hw (dq dt_X9_isChild 9 rfl)
def F_X9_tide (m_tides : Nat → Int32) (p1 : Int32) : Option (Int32) :=
  zc1 (F_X9_in (p1.toInt64) (0 : Int64) (11 : Int64)) (fun v1 => if v1 = 0 then (some (-3 : Int32)) else (rd 12 m_tides p1 (fun v4 => some v4)))
abbrev rm_X9_tide : Room := { frames := 1, cells := 0, slots := 0, locals := 25 }
theorem kd_X9_tide : yX9_tide.cls = RX9 ∧ yX9_tide.cls ≠ "java/lang/invoke/MethodHandle" ∧ yX9_tide.cls ≠ "java/lang/invoke/VarHandle" ∧ (parseMethodDescriptor yX9_tide.desc).map (fun d => d.parameters.length) = some 1 := by decide +kernel
set_option maxRecDepth 100000 in
set_option maxHeartbeats 4000000 in
theorem A_X9_tide (l : Launch) (D : va_G) (cB cI cJ cZ : ClassId) (ad : (Nat → Nat) × (Nat → Nat)) (a_m a_m_row a_m_isKept a_m_text a_m_read a_m_tides a_m_seeps a_m_kinds a_m_paces a_m_ears a_m_hearers a_m_chosen a_m_dues a_m_sights : Nat) (m_length : Int32) (m_readMany : Int32) (m_yards : Int32) (m_seepMany : Int32) (m_many : Int32) (m_at : Int32) (m_place : Int32) (m_end : Int32) (m_readYards : Int32) (m_readSeeps : Int32) (m_readChildren : Int32) (m_chosenMany : Int32) (m_seenMany : Int32) (m_tides : Nat → Int32) (p1 : Int32) (r : Int32) (hF : F_X9_tide m_tides p1 = some r) : kM l yX9_tide (Cond.code yX9_tide cX9_tide 2 (some .int) :: W0) rm_X9_tide D (kT cB cI cJ cZ) ad [.ref a_m, .int p1] [(a_m, .inr (9, [.ref a_m_row, .ref a_m_isKept, .ref a_m_text, .int m_length, .ref a_m_read, .int m_readMany, .int m_yards, .ref a_m_tides, .ref a_m_seeps, .int m_seepMany, .ref a_m_kinds, .ref a_m_paces, .ref a_m_ears, .int m_many, .int m_at, .int m_place, .int m_end, .int m_readYards, .int m_readSeeps, .int m_readChildren, .ref a_m_hearers, .ref a_m_chosen, .int m_chosenMany, .ref a_m_dues, .ref a_m_sights, .int m_seenMany])), (a_m_tides, .inl (cI, 12, .inl m_tides))] (some (.int r)) [(a_m, .inr (9, [.ref a_m_row, .ref a_m_isKept, .ref a_m_text, .int m_length, .ref a_m_read, .int m_readMany, .int m_yards, .ref a_m_tides, .ref a_m_seeps, .int m_seepMany, .ref a_m_kinds, .ref a_m_paces, .ref a_m_ears, .int m_many, .int m_at, .int m_place, .int m_end, .int m_readYards, .int m_readSeeps, .int m_readChildren, .ref a_m_hearers, .ref a_m_chosen, .int m_chosenMany, .ref a_m_dues, .ref a_m_sights, .int m_seenMany])), (a_m_tides, .inl (cI, 12, .inl m_tides))] := by
  unfold F_X9_tide at hF
  refine kStart (lv := [(0, .ref a_m), (1, .int p1)]) (own := "DikeWatchModel") (plainFor_of_name (by decide)) rfl (Nat.le_of_ble_eq_true rfl) rfl ?_
  intro p e s m args below meth c A Q ls hQ C hx hb hw hl
  refine lv_iload_n hx hb (dq dt_X9_tide 0 rfl) rfl (lv_at hl 1 rfl) ?_
  refine lv_i2l (v := (p1.toInt64)) hx hb (dq dt_X9_tide 1 rfl) rfl ?_
  refine lv_lconst (v := (0 : Int64)) hx hb (dq dt_X9_tide 2 rfl) (by decide) ?_
  refine lv_ldc2 (v := (11 : Int64)) hx hb C.2.2.2.2.2.1 (C.2.2.2.2.2.2.1 _ q5_17) (dq dt_X9_tide 3 rfl) ?_
  obtain ⟨v1, hr2, hF⟩ := zc1_ hF
  refine kCallSP C hw (A_X9_in l D cB cI cJ cZ ad (p1.toInt64) (0 : Int64) (11 : Int64) v1 hr2) (va_cwS 3 C.2.2.2.2.2.2.1 (w0_S0 q4_182 q4_180 q4_181 q1_10) rfl rfl rfl ke_X9_in ⟨Nat.le_of_ble_eq_true rfl, Nat.le_of_ble_eq_true rfl⟩) hl.1 rfl rfl rfl (Nat.le_of_ble_eq_true rfl) ⟨Nat.le_of_ble_eq_true rfl, Nat.le_of_ble_eq_true rfl⟩ (dq dt_X9_tide 4 rfl) (fun H locs hw => ?_)
  refine lv_if_eq (tgt := 21) hx hb (dq dt_X9_tide 5 rfl) (by decide) (fun c3 => ?_) (fun c3 => ?_)
  · replace hF := if_t c3 hF
    refine lv_bipush (v := (-3 : Int32)) hx hb (dq dt_X9_tide 11 rfl) (by decide) ?_
    cases hF
    exact kRetI hQ C hw (dq dt_X9_tide 12 rfl)
  · replace hF := if_f c3 hF
    refine lv_aload_n hx hb (dq dt_X9_tide 6 rfl) rfl (lv_at hl 0 rfl) ?_
    refine kGet (ci := 9) C in_X9 hw 0 rfl rfl 7 (by decide) (C.2.2.2.2.2.2.1 _ q4_102) rfl rfl (dq dt_X9_tide 7 rfl) ?_
    refine lv_iload_n hx hb (dq dt_X9_tide 8 rfl) rfl (lv_at hl 1 rfl) ?_
    obtain ⟨v4, ev4, hi5, hF⟩ := rd_ hF
    refine kIald C hw 1 1 rfl rfl hi5 ev4 (dq dt_X9_tide 9 rfl) ?_
    refine lv_goto (tgt := 23) hx hb (dq dt_X9_tide 10 rfl) (by decide) ?_
    cases hF
    exact kRetI hQ C hw (dq dt_X9_tide 12 rfl)
def F_X9_seep (m_seepMany : Int32) (m_row : Nat → Int32) (m_seeps : Nat → Int32) (p1 : Int32) (p2 : Int32) : Option (Int32) :=
  zc1 (F_X9_isSeep m_seepMany p1) (fun v1 => if v1 = 0 then (some (-2 : Int32)) else (if p2 = (0 : Int32) then (rd 18 m_seeps ((3 : Int32) * p1) (fun v5 => some v5)) else (if p2 = (1 : Int32) then (rd 95 m_row p1 (fun v8 => some v8)) else (if p2 = (2 : Int32) then (rd 18 m_seeps (((3 : Int32) * p1) + (1 : Int32)) (fun v11 => some v11)) else (if p2 = (3 : Int32) then (rd 18 m_seeps (((3 : Int32) * p1) + (2 : Int32)) (fun v14 => some v14)) else (if p2 = (4 : Int32) then (rd 95 m_row (6 : Int32) (fun v17 => some ((v17 >>> (p1 &&& 31)) &&& (1 : Int32)))) else (some (-3 : Int32))))))))
abbrev rm_X9_seep : Room := { frames := 2, cells := 0, slots := 0, locals := 46 }
theorem kd_X9_seep : yX9_seep.cls = RX9 ∧ yX9_seep.cls ≠ "java/lang/invoke/MethodHandle" ∧ yX9_seep.cls ≠ "java/lang/invoke/VarHandle" ∧ (parseMethodDescriptor yX9_seep.desc).map (fun d => d.parameters.length) = some 2 := by decide +kernel
set_option maxRecDepth 100000 in
set_option maxHeartbeats 4000000 in
theorem A_X9_seep (l : Launch) (D : va_G) (cB cI cJ cZ : ClassId) (ad : (Nat → Nat) × (Nat → Nat)) (a_m a_m_row a_m_isKept a_m_text a_m_read a_m_tides a_m_seeps a_m_kinds a_m_paces a_m_ears a_m_hearers a_m_chosen a_m_dues a_m_sights : Nat) (m_length : Int32) (m_readMany : Int32) (m_yards : Int32) (m_seepMany : Int32) (m_many : Int32) (m_at : Int32) (m_place : Int32) (m_end : Int32) (m_readYards : Int32) (m_readSeeps : Int32) (m_readChildren : Int32) (m_chosenMany : Int32) (m_seenMany : Int32) (m_row : Nat → Int32) (m_seeps : Nat → Int32) (p1 : Int32) (p2 : Int32) (r : Int32) (hF : F_X9_seep m_seepMany m_row m_seeps p1 p2 = some r) : kM l yX9_seep (Cond.code yX9_seep cX9_seep 3 (some .int) :: W0) rm_X9_seep D (kT cB cI cJ cZ) ad [.ref a_m, .int p1, .int p2] [(a_m, .inr (9, [.ref a_m_row, .ref a_m_isKept, .ref a_m_text, .int m_length, .ref a_m_read, .int m_readMany, .int m_yards, .ref a_m_tides, .ref a_m_seeps, .int m_seepMany, .ref a_m_kinds, .ref a_m_paces, .ref a_m_ears, .int m_many, .int m_at, .int m_place, .int m_end, .int m_readYards, .int m_readSeeps, .int m_readChildren, .ref a_m_hearers, .ref a_m_chosen, .int m_chosenMany, .ref a_m_dues, .ref a_m_sights, .int m_seenMany])), (a_m_row, .inl (cI, 95, .inl m_row)), (a_m_seeps, .inl (cI, 18, .inl m_seeps))] (some (.int r)) [(a_m, .inr (9, [.ref a_m_row, .ref a_m_isKept, .ref a_m_text, .int m_length, .ref a_m_read, .int m_readMany, .int m_yards, .ref a_m_tides, .ref a_m_seeps, .int m_seepMany, .ref a_m_kinds, .ref a_m_paces, .ref a_m_ears, .int m_many, .int m_at, .int m_place, .int m_end, .int m_readYards, .int m_readSeeps, .int m_readChildren, .ref a_m_hearers, .ref a_m_chosen, .int m_chosenMany, .ref a_m_dues, .ref a_m_sights, .int m_seenMany])), (a_m_row, .inl (cI, 95, .inl m_row)), (a_m_seeps, .inl (cI, 18, .inl m_seeps))] := by
  unfold F_X9_seep at hF
  refine kStart (lv := [(0, .ref a_m), (1, .int p1), (2, .int p2)]) (own := "DikeWatchModel") (plainFor_of_name (by decide)) rfl (Nat.le_of_ble_eq_true rfl) rfl ?_
  intro p e s m args below meth c A Q ls hQ C hx hb hw hl
  refine lv_aload_n hx hb (dq dt_X9_seep 0 rfl) rfl (lv_at hl 0 rfl) ?_
  refine lv_iload_n hx hb (dq dt_X9_seep 1 rfl) rfl (lv_at hl 1 rfl) ?_
  obtain ⟨v1, hr2, hF⟩ := zc1_ hF
  refine kCallVR C hw (A_X9_isSeep l D cB cI cJ cZ ad a_m a_m_row a_m_isKept a_m_text a_m_read a_m_tides a_m_seeps a_m_kinds a_m_paces a_m_ears a_m_hearers a_m_chosen a_m_dues a_m_sights m_length m_readMany m_yards m_seepMany m_many m_at m_place m_end m_readYards m_readSeeps m_readChildren m_chosenMany m_seenMany p1 v1 hr2) (cwV 1 C.2.2.2.2.2.2.1 (w0_V0 q5_25 q5_22 q5_24 (ws0 32 rfl) q1_10) rfl rfl rfl kd_X9_isSeep ⟨Nat.le_of_ble_eq_true rfl, Nat.le_of_ble_eq_true rfl⟩) [0] rfl rfl 0 9 rfl rfl hl.1 rfl rfl rfl (Nat.le_of_ble_eq_true rfl) ⟨Nat.le_of_ble_eq_true rfl, Nat.le_of_ble_eq_true rfl⟩ (dq dt_X9_seep 2 rfl) (fun H locs hw => ?_)
  refine lv_if_ne (tgt := 11) hx hb (dq dt_X9_seep 3 rfl) (by decide) (fun c3 => ?_) (fun c3 => ?_)
  · replace hF := if_f c3 hF
    refine lv_iload_n hx hb (dq dt_X9_seep 6 rfl) rfl (lv_at hl 2 rfl) ?_
    by_cases c4 : p2 = (0 : Int32)
    · replace hF := if_t c4 hF
      refine lv_tableIn (lo := 0) (hi := 4) (tgt := 48) hx hb (dq dt_X9_seep 7 rfl) (by rw [c4]; decide) (by rw [c4]; decide) (by rw [c4]; rfl) (by decide) ?_
      refine lv_aload_n hx hb (dq dt_X9_seep 8 rfl) rfl (lv_at hl 0 rfl) ?_
      refine kGet (ci := 9) C in_X9 hw 0 rfl rfl 8 (by decide) (C.2.2.2.2.2.2.1 _ q4_103) rfl rfl (dq dt_X9_seep 9 rfl) ?_
      refine lv_iconst (v := (3 : Int32)) hx hb (dq dt_X9_seep 10 rfl) (by decide) ?_
      refine lv_iload_n hx hb (dq dt_X9_seep 11 rfl) rfl (lv_at hl 1 rfl) ?_
      refine lv_imul hx hb (dq dt_X9_seep 12 rfl) ?_
      obtain ⟨v5, ev5, hi6, hF⟩ := rd_ hF
      refine kIald C hw 2 1 rfl rfl hi6 ev5 (dq dt_X9_seep 13 rfl) ?_
      cases hF
      exact kRetI hQ C hw (dq dt_X9_seep 14 rfl)
    replace hF := if_f c4 hF
    by_cases c7 : p2 = (1 : Int32)
    · replace hF := if_t c7 hF
      refine lv_tableIn (lo := 0) (hi := 4) (tgt := 57) hx hb (dq dt_X9_seep 7 rfl) (by rw [c7]; decide) (by rw [c7]; decide) (by rw [c7]; rfl) (by decide) ?_
      refine lv_aload_n hx hb (dq dt_X9_seep 15 rfl) rfl (lv_at hl 0 rfl) ?_
      refine kGet (ci := 9) C in_X9 hw 0 rfl rfl 0 (by decide) (C.2.2.2.2.2.2.1 _ q4_95) rfl rfl (dq dt_X9_seep 16 rfl) ?_
      refine lv_iload_n hx hb (dq dt_X9_seep 17 rfl) rfl (lv_at hl 1 rfl) ?_
      obtain ⟨v8, ev8, hi9, hF⟩ := rd_ hF
      refine kIald C hw 1 1 rfl rfl hi9 ev8 (dq dt_X9_seep 18 rfl) ?_
      cases hF
      exact kRetI hQ C hw (dq dt_X9_seep 19 rfl)
    replace hF := if_f c7 hF
    by_cases c10 : p2 = (2 : Int32)
    · replace hF := if_t c10 hF
      refine lv_tableIn (lo := 0) (hi := 4) (tgt := 64) hx hb (dq dt_X9_seep 7 rfl) (by rw [c10]; decide) (by rw [c10]; decide) (by rw [c10]; rfl) (by decide) ?_
      refine lv_aload_n hx hb (dq dt_X9_seep 20 rfl) rfl (lv_at hl 0 rfl) ?_
      refine kGet (ci := 9) C in_X9 hw 0 rfl rfl 8 (by decide) (C.2.2.2.2.2.2.1 _ q4_103) rfl rfl (dq dt_X9_seep 21 rfl) ?_
      refine lv_iconst (v := (3 : Int32)) hx hb (dq dt_X9_seep 22 rfl) (by decide) ?_
      refine lv_iload_n hx hb (dq dt_X9_seep 23 rfl) rfl (lv_at hl 1 rfl) ?_
      refine lv_imul hx hb (dq dt_X9_seep 24 rfl) ?_
      refine lv_iconst (v := (1 : Int32)) hx hb (dq dt_X9_seep 25 rfl) (by decide) ?_
      refine lv_iadd hx hb (dq dt_X9_seep 26 rfl) ?_
      obtain ⟨v11, ev11, hi12, hF⟩ := rd_ hF
      refine kIald C hw 2 1 rfl rfl hi12 ev11 (dq dt_X9_seep 27 rfl) ?_
      cases hF
      exact kRetI hQ C hw (dq dt_X9_seep 28 rfl)
    replace hF := if_f c10 hF
    by_cases c13 : p2 = (3 : Int32)
    · replace hF := if_t c13 hF
      refine lv_tableIn (lo := 0) (hi := 4) (tgt := 75) hx hb (dq dt_X9_seep 7 rfl) (by rw [c13]; decide) (by rw [c13]; decide) (by rw [c13]; rfl) (by decide) ?_
      refine lv_aload_n hx hb (dq dt_X9_seep 29 rfl) rfl (lv_at hl 0 rfl) ?_
      refine kGet (ci := 9) C in_X9 hw 0 rfl rfl 8 (by decide) (C.2.2.2.2.2.2.1 _ q4_103) rfl rfl (dq dt_X9_seep 30 rfl) ?_
      refine lv_iconst (v := (3 : Int32)) hx hb (dq dt_X9_seep 31 rfl) (by decide) ?_
      refine lv_iload_n hx hb (dq dt_X9_seep 32 rfl) rfl (lv_at hl 1 rfl) ?_
      refine lv_imul hx hb (dq dt_X9_seep 33 rfl) ?_
      refine lv_iconst (v := (2 : Int32)) hx hb (dq dt_X9_seep 34 rfl) (by decide) ?_
      refine lv_iadd hx hb (dq dt_X9_seep 35 rfl) ?_
      obtain ⟨v14, ev14, hi15, hF⟩ := rd_ hF
      refine kIald C hw 2 1 rfl rfl hi15 ev14 (dq dt_X9_seep 36 rfl) ?_
      cases hF
      exact kRetI hQ C hw (dq dt_X9_seep 37 rfl)
    replace hF := if_f c13 hF
    by_cases c16 : p2 = (4 : Int32)
    · replace hF := if_t c16 hF
      refine lv_tableIn (lo := 0) (hi := 4) (tgt := 86) hx hb (dq dt_X9_seep 7 rfl) (by rw [c16]; decide) (by rw [c16]; decide) (by rw [c16]; rfl) (by decide) ?_
      refine lv_aload_n hx hb (dq dt_X9_seep 38 rfl) rfl (lv_at hl 0 rfl) ?_
      refine kGet (ci := 9) C in_X9 hw 0 rfl rfl 0 (by decide) (C.2.2.2.2.2.2.1 _ q4_95) rfl rfl (dq dt_X9_seep 39 rfl) ?_
      refine lv_bipush (v := (6 : Int32)) hx hb (dq dt_X9_seep 40 rfl) (by decide) ?_
      obtain ⟨v17, ev17, hi18, hF⟩ := rd_ hF
      refine kIald C hw 1 1 rfl rfl hi18 ev17 (dq dt_X9_seep 41 rfl) ?_
      refine lv_iload_n hx hb (dq dt_X9_seep 42 rfl) rfl (lv_at hl 1 rfl) ?_
      refine lv_ishr hx hb (dq dt_X9_seep 43 rfl) ?_
      refine lv_iconst (v := (1 : Int32)) hx hb (dq dt_X9_seep 44 rfl) (by decide) ?_
      refine lv_iand hx hb (dq dt_X9_seep 45 rfl) ?_
      cases hF
      exact kRetI hQ C hw (dq dt_X9_seep 46 rfl)
    replace hF := if_f c16 hF
    refine lv_tableOut (lo := 0) (hi := 4) (tgt := 98) hx hb (dq dt_X9_seep 7 rfl) (tb_out (n := 5) (by decide) (fun i hi => by match i, hi with | 0, _ => exact c4 | 1, _ => exact c7 | 2, _ => exact c10 | 3, _ => exact c13 | 4, _ => exact c16 | i + 5, hi => exact absurd hi (by omega))) (by decide) ?_
    refine lv_bipush (v := (-3 : Int32)) hx hb (dq dt_X9_seep 47 rfl) (by decide) ?_
    cases hF
    exact kRetI hQ C hw (dq dt_X9_seep 48 rfl)
  · replace hF := if_t c3 hF
    refine lv_bipush (v := (-2 : Int32)) hx hb (dq dt_X9_seep 4 rfl) (by decide) ?_
    cases hF
    exact kRetI hQ C hw (dq dt_X9_seep 5 rfl)
def F_X9_earOf (m_row : Nat → Int32) (m_kinds : Nat → Int32) (m_ears : Nat → Int32) (p1 : Int32) (p2 : Int32) : Option (Int32) :=
  rd 5 m_kinds p2 (fun v1 => zj1 (fun y3 => if y3 ≤ 0 then (some (0 : Int32)) else (some y3)) (fun K4 => if v1 = (1 : Int32) then (rd 5 m_ears p2 (fun v9 => rd 95 m_row (p1 + (18 : Int32)) (fun v11 => K4 (v9 - (v11 / (4 : Int32)))))) else (rd 5 m_ears p2 (fun v7 => K4 v7))))
abbrev rm_X9_earOf : Room := { frames := 0, cells := 0, slots := 0, locals := 0 }
theorem kd_X9_earOf : yX9_earOf.cls = RX9 ∧ yX9_earOf.cls ≠ "java/lang/invoke/MethodHandle" ∧ yX9_earOf.cls ≠ "java/lang/invoke/VarHandle" ∧ (parseMethodDescriptor yX9_earOf.desc).map (fun d => d.parameters.length) = some 2 := by decide +kernel
set_option maxRecDepth 100000 in
set_option maxHeartbeats 4000000 in
theorem A_X9_earOf (l : Launch) (D : va_G) (cB cI cJ cZ : ClassId) (ad : (Nat → Nat) × (Nat → Nat)) (a_m a_m_row a_m_isKept a_m_text a_m_read a_m_tides a_m_seeps a_m_kinds a_m_paces a_m_ears a_m_hearers a_m_chosen a_m_dues a_m_sights : Nat) (m_length : Int32) (m_readMany : Int32) (m_yards : Int32) (m_seepMany : Int32) (m_many : Int32) (m_at : Int32) (m_place : Int32) (m_end : Int32) (m_readYards : Int32) (m_readSeeps : Int32) (m_readChildren : Int32) (m_chosenMany : Int32) (m_seenMany : Int32) (m_row : Nat → Int32) (m_kinds : Nat → Int32) (m_ears : Nat → Int32) (p1 : Int32) (p2 : Int32) (r : Int32) (hF : F_X9_earOf m_row m_kinds m_ears p1 p2 = some r) : kM l yX9_earOf (Cond.code yX9_earOf cX9_earOf 4 (some .int) :: W0) rm_X9_earOf D (kT cB cI cJ cZ) ad [.ref a_m, .int p1, .int p2] [(a_m, .inr (9, [.ref a_m_row, .ref a_m_isKept, .ref a_m_text, .int m_length, .ref a_m_read, .int m_readMany, .int m_yards, .ref a_m_tides, .ref a_m_seeps, .int m_seepMany, .ref a_m_kinds, .ref a_m_paces, .ref a_m_ears, .int m_many, .int m_at, .int m_place, .int m_end, .int m_readYards, .int m_readSeeps, .int m_readChildren, .ref a_m_hearers, .ref a_m_chosen, .int m_chosenMany, .ref a_m_dues, .ref a_m_sights, .int m_seenMany])), (a_m_row, .inl (cI, 95, .inl m_row)), (a_m_kinds, .inl (cI, 5, .inl m_kinds)), (a_m_ears, .inl (cI, 5, .inl m_ears))] (some (.int r)) [(a_m, .inr (9, [.ref a_m_row, .ref a_m_isKept, .ref a_m_text, .int m_length, .ref a_m_read, .int m_readMany, .int m_yards, .ref a_m_tides, .ref a_m_seeps, .int m_seepMany, .ref a_m_kinds, .ref a_m_paces, .ref a_m_ears, .int m_many, .int m_at, .int m_place, .int m_end, .int m_readYards, .int m_readSeeps, .int m_readChildren, .ref a_m_hearers, .ref a_m_chosen, .int m_chosenMany, .ref a_m_dues, .ref a_m_sights, .int m_seenMany])), (a_m_row, .inl (cI, 95, .inl m_row)), (a_m_kinds, .inl (cI, 5, .inl m_kinds)), (a_m_ears, .inl (cI, 5, .inl m_ears))] := by
  unfold F_X9_earOf at hF
  refine kStart (lv := [(0, .ref a_m), (1, .int p1), (2, .int p2)]) (own := "DikeWatchModel") (plainFor_of_name (by decide)) rfl (Nat.le_of_ble_eq_true rfl) rfl ?_
  intro p e s m args below meth c A Q ls hQ C hx hb hw hl
  refine lv_aload_n hx hb (dq dt_X9_earOf 0 rfl) rfl (lv_at hl 0 rfl) ?_
  refine kGet (ci := 9) C in_X9 hw 0 rfl rfl 10 (by decide) (C.2.2.2.2.2.2.1 _ q4_105) rfl rfl (dq dt_X9_earOf 1 rfl) ?_
  refine lv_iload_n hx hb (dq dt_X9_earOf 2 rfl) rfl (lv_at hl 2 rfl) ?_
  obtain ⟨v1, ev1, hi2, hF⟩ := rd_ hF
  refine kIald C hw 2 1 rfl rfl hi2 ev1 (dq dt_X9_earOf 3 rfl) ?_
  refine lv_iconst (v := (1 : Int32)) hx hb (dq dt_X9_earOf 4 rfl) (by decide) ?_
  obtain ⟨K4, hK4, hF⟩ := zj1_ hF
  have J4 : ∀ (y3 : Int32), K4 y3 = some r → ∀ (H : Heap) (locs : List Loc) (ls : Array Slot), kW D A s.heap [(a_m, .inr (9, [.ref a_m_row, .ref a_m_isKept, .ref a_m_text, .int m_length, .ref a_m_read, .int m_readMany, .int m_yards, .ref a_m_tides, .ref a_m_seeps, .int m_seepMany, .ref a_m_kinds, .ref a_m_paces, .ref a_m_ears, .int m_many, .int m_at, .int m_place, .int m_end, .int m_readYards, .int m_readSeeps, .int m_readChildren, .ref a_m_hearers, .ref a_m_chosen, .int m_chosenMany, .ref a_m_dues, .ref a_m_sights, .int m_seenMany])), (a_m_row, .inl (cI, 95, .inl m_row)), (a_m_kinds, .inl (cI, 5, .inl m_kinds)), (a_m_ears, .inl (cI, 5, .inl m_ears))] H locs → lv_has ls 4 [] → W p l e rm_X9_earOf s m args below meth c H locs 0 0 Q (F0 m 37 ls [.int y3]) := by
    intro y3 hF H locs ls hw hl
    replace hF := hK4 y3 hF
    refine lv_istore_n (lv' := [(3, .int y3)]) hx hb (dq dt_X9_earOf 24 rfl) rfl hl (by decide) rfl (fun ls hl => ?_)
    refine lv_iload_n hx hb (dq dt_X9_earOf 25 rfl) rfl (lv_at hl 0 rfl) ?_
    refine lv_if_le (tgt := 46) hx hb (dq dt_X9_earOf 26 rfl) (by decide) (fun c5 => ?_) (fun c5 => ?_)
    · replace hF := if_t c5 hF
      refine lv_iconst (v := (0 : Int32)) hx hb (dq dt_X9_earOf 29 rfl) (by decide) ?_
      cases hF
      exact kRetI hQ C hw (dq dt_X9_earOf 30 rfl)
    · replace hF := if_f c5 hF
      refine lv_iload_n hx hb (dq dt_X9_earOf 27 rfl) rfl (lv_at hl 0 rfl) ?_
      refine lv_goto (tgt := 47) hx hb (dq dt_X9_earOf 28 rfl) (by decide) ?_
      cases hF
      exact kRetI hQ C hw (dq dt_X9_earOf 30 rfl)
  refine lv_icmp_ne (tgt := 31) hx hb (dq dt_X9_earOf 5 rfl) (by decide) (fun c6 => ?_) (fun c6 => ?_)
  · replace hF := if_f c6 hF
    refine lv_aload_n hx hb (dq dt_X9_earOf 20 rfl) rfl (lv_at hl 0 rfl) ?_
    refine kGet (ci := 9) C in_X9 hw 0 rfl rfl 12 (by decide) (C.2.2.2.2.2.2.1 _ q4_107) rfl rfl (dq dt_X9_earOf 21 rfl) ?_
    refine lv_iload_n hx hb (dq dt_X9_earOf 22 rfl) rfl (lv_at hl 2 rfl) ?_
    obtain ⟨v7, ev7, hi8, hF⟩ := rd_ hF
    refine kIald C hw 3 1 rfl rfl hi8 ev7 (dq dt_X9_earOf 23 rfl) ?_
    exact J4 v7 hF _ _ _ hw (lv_sub hl [] rfl)
  · replace hF := if_t c6 hF
    refine lv_aload_n hx hb (dq dt_X9_earOf 6 rfl) rfl (lv_at hl 0 rfl) ?_
    refine kGet (ci := 9) C in_X9 hw 0 rfl rfl 12 (by decide) (C.2.2.2.2.2.2.1 _ q4_107) rfl rfl (dq dt_X9_earOf 7 rfl) ?_
    refine lv_iload_n hx hb (dq dt_X9_earOf 8 rfl) rfl (lv_at hl 2 rfl) ?_
    obtain ⟨v9, ev9, hi10, hF⟩ := rd_ hF
    refine kIald C hw 3 1 rfl rfl hi10 ev9 (dq dt_X9_earOf 9 rfl) ?_
    refine lv_aload_n hx hb (dq dt_X9_earOf 10 rfl) rfl (lv_at hl 0 rfl) ?_
    refine kGet (ci := 9) C in_X9 hw 0 rfl rfl 0 (by decide) (C.2.2.2.2.2.2.1 _ q4_95) rfl rfl (dq dt_X9_earOf 11 rfl) ?_
    refine lv_iload_n hx hb (dq dt_X9_earOf 12 rfl) rfl (lv_at hl 1 rfl) ?_
    refine lv_bipush (v := (18 : Int32)) hx hb (dq dt_X9_earOf 13 rfl) (by decide) ?_
    refine lv_iadd hx hb (dq dt_X9_earOf 14 rfl) ?_
    obtain ⟨v11, ev11, hi12, hF⟩ := rd_ hF
    refine kIald C hw 1 1 rfl rfl hi12 ev11 (dq dt_X9_earOf 15 rfl) ?_
    refine lv_iconst (v := (4 : Int32)) hx hb (dq dt_X9_earOf 16 rfl) (by decide) ?_
    refine lv_idiv hx hb (dq dt_X9_earOf 17 rfl) (by decide) ?_
    refine lv_isub hx hb (dq dt_X9_earOf 18 rfl) ?_
    refine lv_goto (tgt := 37) hx hb (dq dt_X9_earOf 19 rfl) (by decide) ?_
    exact J4 (v9 - (v11 / (4 : Int32))) hF _ _ _ hw (lv_sub hl [] rfl)
def F_X9_heardAt (m_seepMany : Int32) (m_row : Nat → Int32) (m_seeps : Nat → Int32) (p1 : Int32) (p2 : Int32) (p3 : Int32) : Option (Int32) :=
  zl2 (fun x1 x2 ag3 => if m_seepMany ≤ x2 then (some x1) else (rd 95 m_row (p1 + (6 : Int32)) (fun v5 => zc1 (F_X9_has v5 x2) (fun v7 => zj1 (fun y9 => bd (x1 ||| y9) (fun v11 => bd (x2 + (1 : Int32)) (fun v12 => ag3 v11 v12))) (fun K10 => if v7 = 0 then (rd 18 m_seeps ((3 : Int32) * x2) (fun v14 => zc1 (F_X9_far p2 v14) (fun v16 => if p3 < v16 then (K10 (0 : Int32)) else (K10 ((1 : Int32) <<< (x2 &&& 31)))))) else (K10 (0 : Int32))))))) FU (0 : Int32) (0 : Int32)
abbrev rm_X9_heardAt : Room := { frames := 1, cells := 0, slots := 0, locals := 21 }
theorem kd_X9_heardAt : yX9_heardAt.cls = RX9 ∧ yX9_heardAt.cls ≠ "java/lang/invoke/MethodHandle" ∧ yX9_heardAt.cls ≠ "java/lang/invoke/VarHandle" ∧ (parseMethodDescriptor yX9_heardAt.desc).map (fun d => d.parameters.length) = some 3 := by decide +kernel
set_option maxRecDepth 100000 in
set_option maxHeartbeats 4000000 in
theorem A_X9_heardAt (l : Launch) (D : va_G) (cB cI cJ cZ : ClassId) (ad : (Nat → Nat) × (Nat → Nat)) (a_m a_m_row a_m_isKept a_m_text a_m_read a_m_tides a_m_seeps a_m_kinds a_m_paces a_m_ears a_m_hearers a_m_chosen a_m_dues a_m_sights : Nat) (m_length : Int32) (m_readMany : Int32) (m_yards : Int32) (m_seepMany : Int32) (m_many : Int32) (m_at : Int32) (m_place : Int32) (m_end : Int32) (m_readYards : Int32) (m_readSeeps : Int32) (m_readChildren : Int32) (m_chosenMany : Int32) (m_seenMany : Int32) (m_row : Nat → Int32) (m_seeps : Nat → Int32) (p1 : Int32) (p2 : Int32) (p3 : Int32) (r : Int32) (hF : F_X9_heardAt m_seepMany m_row m_seeps p1 p2 p3 = some r) : kM l yX9_heardAt (Cond.code yX9_heardAt cX9_heardAt 6 (some .int) :: W0) rm_X9_heardAt D (kT cB cI cJ cZ) ad [.ref a_m, .int p1, .int p2, .int p3] [(a_m, .inr (9, [.ref a_m_row, .ref a_m_isKept, .ref a_m_text, .int m_length, .ref a_m_read, .int m_readMany, .int m_yards, .ref a_m_tides, .ref a_m_seeps, .int m_seepMany, .ref a_m_kinds, .ref a_m_paces, .ref a_m_ears, .int m_many, .int m_at, .int m_place, .int m_end, .int m_readYards, .int m_readSeeps, .int m_readChildren, .ref a_m_hearers, .ref a_m_chosen, .int m_chosenMany, .ref a_m_dues, .ref a_m_sights, .int m_seenMany])), (a_m_row, .inl (cI, 95, .inl m_row)), (a_m_seeps, .inl (cI, 18, .inl m_seeps))] (some (.int r)) [(a_m, .inr (9, [.ref a_m_row, .ref a_m_isKept, .ref a_m_text, .int m_length, .ref a_m_read, .int m_readMany, .int m_yards, .ref a_m_tides, .ref a_m_seeps, .int m_seepMany, .ref a_m_kinds, .ref a_m_paces, .ref a_m_ears, .int m_many, .int m_at, .int m_place, .int m_end, .int m_readYards, .int m_readSeeps, .int m_readChildren, .ref a_m_hearers, .ref a_m_chosen, .int m_chosenMany, .ref a_m_dues, .ref a_m_sights, .int m_seenMany])), (a_m_row, .inl (cI, 95, .inl m_row)), (a_m_seeps, .inl (cI, 18, .inl m_seeps))] := by
  unfold F_X9_heardAt at hF
  refine kStart (lv := [(0, .ref a_m), (1, .int p1), (2, .int p2), (3, .int p3)]) (own := "DikeWatchModel") (plainFor_of_name (by decide)) rfl (Nat.le_of_ble_eq_true rfl) rfl ?_
  intro p e s m args below meth c A Q ls hQ C hx hb hw hl
  refine lv_iconst (v := (0 : Int32)) hx hb (dq dt_X9_heardAt 0 rfl) (by decide) ?_
  refine lv_istore (lv' := [(4, .int (0 : Int32)), (0, .ref a_m), (1, .int p1), (2, .int p2), (3, .int p3)]) hx hb (dq dt_X9_heardAt 1 rfl) hl (by decide) rfl (fun ls hl => ?_)
  refine lv_iconst (v := (0 : Int32)) hx hb (dq dt_X9_heardAt 2 rfl) (by decide) ?_
  refine lv_istore (lv' := [(5, .int (0 : Int32)), (4, .int (0 : Int32)), (0, .ref a_m), (1, .int p1), (2, .int p2), (3, .int p3)]) hx hb (dq dt_X9_heardAt 3 rfl) hl (by decide) rfl (fun ls hl => ?_)
  obtain ⟨K3, hK03, hK3, hF⟩ := zl2_ hF
  have L3 : ∀ (n : Nat) (x1 : Int32) (x2 : Int32), K3 n x1 x2 = some r → ∀ (H : Heap) (locs : List Loc) (ls : Array Slot), kW D A s.heap [(a_m, .inr (9, [.ref a_m_row, .ref a_m_isKept, .ref a_m_text, .int m_length, .ref a_m_read, .int m_readMany, .int m_yards, .ref a_m_tides, .ref a_m_seeps, .int m_seepMany, .ref a_m_kinds, .ref a_m_paces, .ref a_m_ears, .int m_many, .int m_at, .int m_place, .int m_end, .int m_readYards, .int m_readSeeps, .int m_readChildren, .ref a_m_hearers, .ref a_m_chosen, .int m_chosenMany, .ref a_m_dues, .ref a_m_sights, .int m_seenMany])), (a_m_row, .inl (cI, 95, .inl m_row)), (a_m_seeps, .inl (cI, 18, .inl m_seeps))] H locs → lv_has ls 6 [(0, .ref a_m), (1, .int p1), (2, .int p2), (3, .int p3), (4, .int x1), (5, .int x2)] → W p l e rm_X9_heardAt s m args below meth c H locs 0 0 Q (F0 m 6 ls []) := by
    intro n
    induction n with
    | zero => intro x1 x2 hF; exact (lp_no (hK03 x1 x2) hF).elim
    | succ n ih3 =>
      intro x1 x2 hF H locs ls hw hl
      replace hF := hK3 n x1 x2 hF
      refine lv_iload hx hb (dq dt_X9_heardAt 4 rfl) (lv_at hl 5 rfl) ?_
      refine lv_aload_n hx hb (dq dt_X9_heardAt 5 rfl) rfl (lv_at hl 0 rfl) ?_
      refine kGet (ci := 9) C in_X9 hw 0 rfl rfl 9 (by decide) (C.2.2.2.2.2.2.1 _ q4_104) rfl rfl (dq dt_X9_heardAt 6 rfl) ?_
      refine lv_icmp_ge (tgt := 68) hx hb (dq dt_X9_heardAt 7 rfl) (by decide) (fun c4 => ?_) (fun c4 => ?_)
      · replace hF := if_t c4 hF
        refine lv_iload hx hb (dq dt_X9_heardAt 37 rfl) (lv_at hl 4 rfl) ?_
        cases hF
        exact kRetI hQ C hw (dq dt_X9_heardAt 38 rfl)
      · replace hF := if_f c4 hF
        refine lv_iload hx hb (dq dt_X9_heardAt 8 rfl) (lv_at hl 4 rfl) ?_
        refine lv_aload_n hx hb (dq dt_X9_heardAt 9 rfl) rfl (lv_at hl 0 rfl) ?_
        refine kGet (ci := 9) C in_X9 hw 0 rfl rfl 0 (by decide) (C.2.2.2.2.2.2.1 _ q4_95) rfl rfl (dq dt_X9_heardAt 10 rfl) ?_
        refine lv_iload_n hx hb (dq dt_X9_heardAt 11 rfl) rfl (lv_at hl 1 rfl) ?_
        refine lv_bipush (v := (6 : Int32)) hx hb (dq dt_X9_heardAt 12 rfl) (by decide) ?_
        refine lv_iadd hx hb (dq dt_X9_heardAt 13 rfl) ?_
        obtain ⟨v5, ev5, hi6, hF⟩ := rd_ hF
        refine kIald C hw 1 1 rfl rfl hi6 ev5 (dq dt_X9_heardAt 14 rfl) ?_
        refine lv_iload hx hb (dq dt_X9_heardAt 15 rfl) (lv_at hl 5 rfl) ?_
        obtain ⟨v7, hr8, hF⟩ := zc1_ hF
        refine kCallSP C hw (A_X9_has l D cB cI cJ cZ ad v5 x2 v7 hr8) (va_cwS 2 C.2.2.2.2.2.2.1 (w0_S0 q5_52 q5_50 q5_51 q1_10) rfl rfl rfl ke_X9_has ⟨Nat.le_of_ble_eq_true rfl, Nat.le_of_ble_eq_true rfl⟩) hl.1 rfl rfl rfl (Nat.le_of_ble_eq_true rfl) ⟨Nat.le_of_ble_eq_true rfl, Nat.le_of_ble_eq_true rfl⟩ (dq dt_X9_heardAt 16 rfl) (fun H locs hw => ?_)
        obtain ⟨K10, hK10, hF⟩ := zj1_ hF
        have J10 : ∀ (y9 : Int32), K10 y9 = some r → ∀ (H : Heap) (locs : List Loc) (ls : Array Slot), kW D A s.heap [(a_m, .inr (9, [.ref a_m_row, .ref a_m_isKept, .ref a_m_text, .int m_length, .ref a_m_read, .int m_readMany, .int m_yards, .ref a_m_tides, .ref a_m_seeps, .int m_seepMany, .ref a_m_kinds, .ref a_m_paces, .ref a_m_ears, .int m_many, .int m_at, .int m_place, .int m_end, .int m_readYards, .int m_readSeeps, .int m_readChildren, .ref a_m_hearers, .ref a_m_chosen, .int m_chosenMany, .ref a_m_dues, .ref a_m_sights, .int m_seenMany])), (a_m_row, .inl (cI, 95, .inl m_row)), (a_m_seeps, .inl (cI, 18, .inl m_seeps))] H locs → lv_has ls 6 [(0, .ref a_m), (1, .int p1), (2, .int p2), (3, .int p3), (5, .int x2)] → W p l e rm_X9_heardAt s m args below meth c H locs 0 0 Q (F0 m 59 ls [.int y9, .int x1]) := by
          intro y9 hF H locs ls hw hl
          replace hF := hK10 y9 hF
          refine lv_ior hx hb (dq dt_X9_heardAt 33 rfl) ?_
          obtain ⟨v11, ev11, hF⟩ := bd_ hF
          refine kNmI ev11 ?_
          refine lv_istore (lv' := [(4, .int v11), (0, .ref a_m), (1, .int p1), (2, .int p2), (3, .int p3), (5, .int x2)]) hx hb (dq dt_X9_heardAt 34 rfl) hl (by decide) rfl (fun ls hl => ?_)
          obtain ⟨v12, ev12, hF⟩ := bd_ hF
          refine lv_iinc (v := v12) (lv' := [(5, .int v12), (4, .int v11), (0, .ref a_m), (1, .int p1), (2, .int p2), (3, .int p3)]) hx hb (dq dt_X9_heardAt 35 rfl) hl (k := 5) rfl ev12.symm (by decide) rfl (fun ls hl => ?_)
          refine lv_goto (tgt := 6) hx hb (dq dt_X9_heardAt 36 rfl) (by decide) ?_
          exact ih3 v11 v12 hF _ _ _ hw (lv_sub hl [2, 3, 4, 5, 1, 0] rfl)
        refine lv_if_ne (tgt := 58) hx hb (dq dt_X9_heardAt 17 rfl) (by decide) (fun c13 => ?_) (fun c13 => ?_)
        · replace hF := if_f c13 hF
          refine lv_iconst (v := (0 : Int32)) hx hb (dq dt_X9_heardAt 32 rfl) (by decide) ?_
          exact J10 (0 : Int32) hF _ _ _ hw (lv_sub hl [0, 1, 2, 3, 5] rfl)
        · replace hF := if_t c13 hF
          refine lv_iload_n hx hb (dq dt_X9_heardAt 18 rfl) rfl (lv_at hl 2 rfl) ?_
          refine lv_aload_n hx hb (dq dt_X9_heardAt 19 rfl) rfl (lv_at hl 0 rfl) ?_
          refine kGet (ci := 9) C in_X9 hw 0 rfl rfl 8 (by decide) (C.2.2.2.2.2.2.1 _ q4_103) rfl rfl (dq dt_X9_heardAt 20 rfl) ?_
          refine lv_iconst (v := (3 : Int32)) hx hb (dq dt_X9_heardAt 21 rfl) (by decide) ?_
          refine lv_iload hx hb (dq dt_X9_heardAt 22 rfl) (lv_at hl 5 rfl) ?_
          refine lv_imul hx hb (dq dt_X9_heardAt 23 rfl) ?_
          obtain ⟨v14, ev14, hi15, hF⟩ := rd_ hF
          refine kIald C hw 2 1 rfl rfl hi15 ev14 (dq dt_X9_heardAt 24 rfl) ?_
          obtain ⟨v16, hr17, hF⟩ := zc1_ hF
          refine kCallSP C hw (A_X9_far l D cB cI cJ cZ ad p2 v14 v16 hr17) (va_cwS 2 C.2.2.2.2.2.2.1 (w0_S0 q5_55 q5_53 q5_54 q1_10) rfl rfl rfl ke_X9_far ⟨Nat.le_of_ble_eq_true rfl, Nat.le_of_ble_eq_true rfl⟩) hl.1 rfl rfl rfl (Nat.le_of_ble_eq_true rfl) ⟨Nat.le_of_ble_eq_true rfl, Nat.le_of_ble_eq_true rfl⟩ (dq dt_X9_heardAt 25 rfl) (fun H locs hw => ?_)
          refine lv_iload_n hx hb (dq dt_X9_heardAt 26 rfl) rfl (lv_at hl 3 rfl) ?_
          refine lv_icmp_gt (tgt := 58) hx hb (dq dt_X9_heardAt 27 rfl) (by decide) (fun c18 => ?_) (fun c18 => ?_)
          · replace hF := if_t c18 hF
            refine lv_iconst (v := (0 : Int32)) hx hb (dq dt_X9_heardAt 32 rfl) (by decide) ?_
            exact J10 (0 : Int32) hF _ _ _ hw (lv_sub hl [0, 1, 2, 3, 5] rfl)
          · replace hF := if_f c18 hF
            refine lv_iconst (v := (1 : Int32)) hx hb (dq dt_X9_heardAt 28 rfl) (by decide) ?_
            refine lv_iload hx hb (dq dt_X9_heardAt 29 rfl) (lv_at hl 5 rfl) ?_
            refine lv_ishl hx hb (dq dt_X9_heardAt 30 rfl) ?_
            refine lv_goto (tgt := 59) hx hb (dq dt_X9_heardAt 31 rfl) (by decide) ?_
            exact J10 ((1 : Int32) <<< (x2 &&& 31)) hF _ _ _ hw (lv_sub hl [0, 1, 2, 3, 5] rfl)
  exact L3 _ (0 : Int32) (0 : Int32) hF _ _ _ hw (lv_sub hl [2, 3, 4, 5, 1, 0] rfl)
def F_X9_hears (m_seepMany : Int32) (m_row : Nat → Int32) (m_seeps : Nat → Int32) (m_kinds : Nat → Int32) (m_ears : Nat → Int32) (p1 : Int32) (p2 : Int32) : Option (Int32) :=
  rd 5 m_kinds p2 (fun v1 => if v1 < (2 : Int32) then (rd 95 m_row ((p1 + (7 : Int32)) + p2) (fun v4 => zc1 (F_X9_earOf m_row m_kinds m_ears p1 p2) (fun v6 => zc1 (F_X9_heardAt m_seepMany m_row m_seeps p1 v4 v6) (fun v8 => some v8)))) else (some (0 : Int32)))
abbrev rm_X9_hears : Room := { frames := 2, cells := 0, slots := 0, locals := 46 }
theorem kd_X9_hears : yX9_hears.cls = RX9 ∧ yX9_hears.cls ≠ "java/lang/invoke/MethodHandle" ∧ yX9_hears.cls ≠ "java/lang/invoke/VarHandle" ∧ (parseMethodDescriptor yX9_hears.desc).map (fun d => d.parameters.length) = some 2 := by decide +kernel
set_option maxRecDepth 100000 in
set_option maxHeartbeats 4000000 in
theorem A_X9_hears (l : Launch) (D : va_G) (cB cI cJ cZ : ClassId) (ad : (Nat → Nat) × (Nat → Nat)) (a_m a_m_row a_m_isKept a_m_text a_m_read a_m_tides a_m_seeps a_m_kinds a_m_paces a_m_ears a_m_hearers a_m_chosen a_m_dues a_m_sights : Nat) (m_length : Int32) (m_readMany : Int32) (m_yards : Int32) (m_seepMany : Int32) (m_many : Int32) (m_at : Int32) (m_place : Int32) (m_end : Int32) (m_readYards : Int32) (m_readSeeps : Int32) (m_readChildren : Int32) (m_chosenMany : Int32) (m_seenMany : Int32) (m_row : Nat → Int32) (m_seeps : Nat → Int32) (m_kinds : Nat → Int32) (m_ears : Nat → Int32) (p1 : Int32) (p2 : Int32) (r : Int32) (hF : F_X9_hears m_seepMany m_row m_seeps m_kinds m_ears p1 p2 = some r) : kM l yX9_hears (Cond.code yX9_hears cX9_hears 3 (some .int) :: W0) rm_X9_hears D (kT cB cI cJ cZ) ad [.ref a_m, .int p1, .int p2] [(a_m, .inr (9, [.ref a_m_row, .ref a_m_isKept, .ref a_m_text, .int m_length, .ref a_m_read, .int m_readMany, .int m_yards, .ref a_m_tides, .ref a_m_seeps, .int m_seepMany, .ref a_m_kinds, .ref a_m_paces, .ref a_m_ears, .int m_many, .int m_at, .int m_place, .int m_end, .int m_readYards, .int m_readSeeps, .int m_readChildren, .ref a_m_hearers, .ref a_m_chosen, .int m_chosenMany, .ref a_m_dues, .ref a_m_sights, .int m_seenMany])), (a_m_row, .inl (cI, 95, .inl m_row)), (a_m_seeps, .inl (cI, 18, .inl m_seeps)), (a_m_kinds, .inl (cI, 5, .inl m_kinds)), (a_m_ears, .inl (cI, 5, .inl m_ears))] (some (.int r)) [(a_m, .inr (9, [.ref a_m_row, .ref a_m_isKept, .ref a_m_text, .int m_length, .ref a_m_read, .int m_readMany, .int m_yards, .ref a_m_tides, .ref a_m_seeps, .int m_seepMany, .ref a_m_kinds, .ref a_m_paces, .ref a_m_ears, .int m_many, .int m_at, .int m_place, .int m_end, .int m_readYards, .int m_readSeeps, .int m_readChildren, .ref a_m_hearers, .ref a_m_chosen, .int m_chosenMany, .ref a_m_dues, .ref a_m_sights, .int m_seenMany])), (a_m_row, .inl (cI, 95, .inl m_row)), (a_m_seeps, .inl (cI, 18, .inl m_seeps)), (a_m_kinds, .inl (cI, 5, .inl m_kinds)), (a_m_ears, .inl (cI, 5, .inl m_ears))] := by
  unfold F_X9_hears at hF
  refine kStart (lv := [(0, .ref a_m), (1, .int p1), (2, .int p2)]) (own := "DikeWatchModel") (plainFor_of_name (by decide)) rfl (Nat.le_of_ble_eq_true rfl) rfl ?_
  intro p e s m args below meth c A Q ls hQ C hx hb hw hl
  refine lv_aload_n hx hb (dq dt_X9_hears 0 rfl) rfl (lv_at hl 0 rfl) ?_
  refine kGet (ci := 9) C in_X9 hw 0 rfl rfl 10 (by decide) (C.2.2.2.2.2.2.1 _ q4_105) rfl rfl (dq dt_X9_hears 1 rfl) ?_
  refine lv_iload_n hx hb (dq dt_X9_hears 2 rfl) rfl (lv_at hl 2 rfl) ?_
  obtain ⟨v1, ev1, hi2, hF⟩ := rd_ hF
  refine kIald C hw 3 1 rfl rfl hi2 ev1 (dq dt_X9_hears 3 rfl) ?_
  refine lv_iconst (v := (2 : Int32)) hx hb (dq dt_X9_hears 4 rfl) (by decide) ?_
  refine lv_icmp_lt (tgt := 14) hx hb (dq dt_X9_hears 5 rfl) (by decide) (fun c3 => ?_) (fun c3 => ?_)
  · replace hF := if_t c3 hF
    refine lv_aload_n hx hb (dq dt_X9_hears 8 rfl) rfl (lv_at hl 0 rfl) ?_
    refine lv_iload_n hx hb (dq dt_X9_hears 9 rfl) rfl (lv_at hl 1 rfl) ?_
    refine lv_aload_n hx hb (dq dt_X9_hears 10 rfl) rfl (lv_at hl 0 rfl) ?_
    refine kGet (ci := 9) C in_X9 hw 0 rfl rfl 0 (by decide) (C.2.2.2.2.2.2.1 _ q4_95) rfl rfl (dq dt_X9_hears 11 rfl) ?_
    refine lv_iload_n hx hb (dq dt_X9_hears 12 rfl) rfl (lv_at hl 1 rfl) ?_
    refine lv_bipush (v := (7 : Int32)) hx hb (dq dt_X9_hears 13 rfl) (by decide) ?_
    refine lv_iadd hx hb (dq dt_X9_hears 14 rfl) ?_
    refine lv_iload_n hx hb (dq dt_X9_hears 15 rfl) rfl (lv_at hl 2 rfl) ?_
    refine lv_iadd hx hb (dq dt_X9_hears 16 rfl) ?_
    obtain ⟨v4, ev4, hi5, hF⟩ := rd_ hF
    refine kIald C hw 1 1 rfl rfl hi5 ev4 (dq dt_X9_hears 17 rfl) ?_
    refine lv_aload_n hx hb (dq dt_X9_hears 18 rfl) rfl (lv_at hl 0 rfl) ?_
    refine lv_iload_n hx hb (dq dt_X9_hears 19 rfl) rfl (lv_at hl 1 rfl) ?_
    refine lv_iload_n hx hb (dq dt_X9_hears 20 rfl) rfl (lv_at hl 2 rfl) ?_
    obtain ⟨v6, hr7, hF⟩ := zc1_ hF
    refine kCallVR C hw (A_X9_earOf l D cB cI cJ cZ ad a_m a_m_row a_m_isKept a_m_text a_m_read a_m_tides a_m_seeps a_m_kinds a_m_paces a_m_ears a_m_hearers a_m_chosen a_m_dues a_m_sights m_length m_readMany m_yards m_seepMany m_many m_at m_place m_end m_readYards m_readSeeps m_readChildren m_chosenMany m_seenMany m_row m_kinds m_ears p1 p2 v6 hr7) (cwV 2 C.2.2.2.2.2.2.1 (w0_V0 q5_37 q5_34 q5_36 (ws0 34 rfl) q1_10) rfl rfl rfl kd_X9_earOf ⟨Nat.le_of_ble_eq_true rfl, Nat.le_of_ble_eq_true rfl⟩) [0, 1, 3, 4] rfl rfl 0 9 rfl rfl hl.1 rfl rfl rfl (Nat.le_of_ble_eq_true rfl) ⟨Nat.le_of_ble_eq_true rfl, Nat.le_of_ble_eq_true rfl⟩ (dq dt_X9_hears 21 rfl) (fun H locs hw => ?_)
    obtain ⟨v8, hr9, hF⟩ := zc1_ hF
    refine kCallVR C hw (A_X9_heardAt l D cB cI cJ cZ ad a_m a_m_row a_m_isKept a_m_text a_m_read a_m_tides a_m_seeps a_m_kinds a_m_paces a_m_ears a_m_hearers a_m_chosen a_m_dues a_m_sights m_length m_readMany m_yards m_seepMany m_many m_at m_place m_end m_readYards m_readSeeps m_readChildren m_chosenMany m_seenMany m_row m_seeps p1 v4 v6 v8 hr9) (cwV 3 C.2.2.2.2.2.2.1 (w0_V0 q5_49 q5_46 q5_48 (ws0 37 rfl) q1_10) rfl rfl rfl kd_X9_heardAt ⟨Nat.le_of_ble_eq_true rfl, Nat.le_of_ble_eq_true rfl⟩) [0, 1, 2] rfl rfl 0 9 rfl rfl hl.1 rfl rfl rfl (Nat.le_of_ble_eq_true rfl) ⟨Nat.le_of_ble_eq_true rfl, Nat.le_of_ble_eq_true rfl⟩ (dq dt_X9_hears 22 rfl) (fun H locs hw => ?_)
    cases hF
    exact kRetI hQ C hw (dq dt_X9_hears 23 rfl)
  · replace hF := if_f c3 hF
    refine lv_iconst (v := (0 : Int32)) hx hb (dq dt_X9_hears 6 rfl) (by decide) ?_
    refine lv_goto (tgt := 36) hx hb (dq dt_X9_hears 7 rfl) (by decide) ?_
    cases hF
    exact kRetI hQ C hw (dq dt_X9_hears 23 rfl)
def F_X9_tells (m_yards : Int32) (m_seepMany : Int32) (m_row : Nat → Int32) (m_seeps : Nat → Int32) (m_kinds : Nat → Int32) (m_ears : Nat → Int32) (p1 : Int32) : Option (Int32) :=
  rd 95 m_row ((7 : Int32) + p1) (fun v1 => zc1 (F_X9_hears m_seepMany m_row m_seeps m_kinds m_ears (0 : Int32) p1) (fun v3 => zl2 (fun x5 x6 ag7 => if m_yards ≤ x6 then (rd 5 m_kinds p1 (fun v9 => if v9 = (2 : Int32) then (some v1) else (some x5))) else (zl2 (fun x12 x13 ag14 => if m_seepMany ≤ x13 then (zj0 (bd (x6 + (1 : Int32)) (fun v17 => ag7 x5 v17)) (fun K16 => if x12 = 0 then (K16) else (zj0 (bd (x6 + (1 : Int32)) (fun v20 => ag7 x6 v20)) (fun K19 => if x5 = (-1 : Int32) then (K19) else (zc1 (F_X9_far v1 x6) (fun v22 => zc1 (F_X9_far v1 x5) (fun v24 => if v24 ≤ v22 then (K16) else (K19)))))))) else (zj0 (bd (x13 + (1 : Int32)) (fun v28 => ag14 (1 : Int32) v28)) (fun K27 => if x12 = 0 then (zc1 (F_X9_has v3 x13) (fun v30 => zj0 (bd (x13 + (1 : Int32)) (fun v33 => ag14 (0 : Int32) v33)) (fun K32 => if v30 = 0 then (K32) else (rd 18 m_seeps ((3 : Int32) * x13) (fun v35 => if v35 = x6 then (K27) else (K32)))))) else (K27)))) FU (0 : Int32) (0 : Int32))) FU (-1 : Int32) (0 : Int32)))
abbrev rm_X9_tells : Room := { frames := 3, cells := 0, slots := 0, locals := 68 }
theorem kd_X9_tells : yX9_tells.cls = RX9 ∧ yX9_tells.cls ≠ "java/lang/invoke/MethodHandle" ∧ yX9_tells.cls ≠ "java/lang/invoke/VarHandle" ∧ (parseMethodDescriptor yX9_tells.desc).map (fun d => d.parameters.length) = some 1 := by decide +kernel
set_option maxRecDepth 100000 in
set_option maxHeartbeats 4000000 in
theorem A_X9_tells (l : Launch) (D : va_G) (cB cI cJ cZ : ClassId) (ad : (Nat → Nat) × (Nat → Nat)) (a_m a_m_row a_m_isKept a_m_text a_m_read a_m_tides a_m_seeps a_m_kinds a_m_paces a_m_ears a_m_hearers a_m_chosen a_m_dues a_m_sights : Nat) (m_length : Int32) (m_readMany : Int32) (m_yards : Int32) (m_seepMany : Int32) (m_many : Int32) (m_at : Int32) (m_place : Int32) (m_end : Int32) (m_readYards : Int32) (m_readSeeps : Int32) (m_readChildren : Int32) (m_chosenMany : Int32) (m_seenMany : Int32) (m_row : Nat → Int32) (m_seeps : Nat → Int32) (m_kinds : Nat → Int32) (m_ears : Nat → Int32) (p1 : Int32) (r : Int32) (hF : F_X9_tells m_yards m_seepMany m_row m_seeps m_kinds m_ears p1 = some r) : kM l yX9_tells (Cond.code yX9_tells cX9_tells 8 (some .int) :: W0) rm_X9_tells D (kT cB cI cJ cZ) ad [.ref a_m, .int p1] [(a_m, .inr (9, [.ref a_m_row, .ref a_m_isKept, .ref a_m_text, .int m_length, .ref a_m_read, .int m_readMany, .int m_yards, .ref a_m_tides, .ref a_m_seeps, .int m_seepMany, .ref a_m_kinds, .ref a_m_paces, .ref a_m_ears, .int m_many, .int m_at, .int m_place, .int m_end, .int m_readYards, .int m_readSeeps, .int m_readChildren, .ref a_m_hearers, .ref a_m_chosen, .int m_chosenMany, .ref a_m_dues, .ref a_m_sights, .int m_seenMany])), (a_m_row, .inl (cI, 95, .inl m_row)), (a_m_seeps, .inl (cI, 18, .inl m_seeps)), (a_m_kinds, .inl (cI, 5, .inl m_kinds)), (a_m_ears, .inl (cI, 5, .inl m_ears))] (some (.int r)) [(a_m, .inr (9, [.ref a_m_row, .ref a_m_isKept, .ref a_m_text, .int m_length, .ref a_m_read, .int m_readMany, .int m_yards, .ref a_m_tides, .ref a_m_seeps, .int m_seepMany, .ref a_m_kinds, .ref a_m_paces, .ref a_m_ears, .int m_many, .int m_at, .int m_place, .int m_end, .int m_readYards, .int m_readSeeps, .int m_readChildren, .ref a_m_hearers, .ref a_m_chosen, .int m_chosenMany, .ref a_m_dues, .ref a_m_sights, .int m_seenMany])), (a_m_row, .inl (cI, 95, .inl m_row)), (a_m_seeps, .inl (cI, 18, .inl m_seeps)), (a_m_kinds, .inl (cI, 5, .inl m_kinds)), (a_m_ears, .inl (cI, 5, .inl m_ears))] := by
  unfold F_X9_tells at hF
  refine kStart (lv := [(0, .ref a_m), (1, .int p1)]) (own := "DikeWatchModel") (plainFor_of_name (by decide)) rfl (Nat.le_of_ble_eq_true rfl) rfl ?_
  intro p e s m args below meth c A Q ls hQ C hx hb hw hl
  refine lv_aload_n hx hb (dq dt_X9_tells 0 rfl) rfl (lv_at hl 0 rfl) ?_
  refine kGet (ci := 9) C in_X9 hw 0 rfl rfl 0 (by decide) (C.2.2.2.2.2.2.1 _ q4_95) rfl rfl (dq dt_X9_tells 1 rfl) ?_
  refine lv_bipush (v := (7 : Int32)) hx hb (dq dt_X9_tells 2 rfl) (by decide) ?_
  refine lv_iload_n hx hb (dq dt_X9_tells 3 rfl) rfl (lv_at hl 1 rfl) ?_
  refine lv_iadd hx hb (dq dt_X9_tells 4 rfl) ?_
  obtain ⟨v1, ev1, hi2, hF⟩ := rd_ hF
  refine kIald C hw 1 1 rfl rfl hi2 ev1 (dq dt_X9_tells 5 rfl) ?_
  refine lv_istore_n (lv' := [(2, .int v1), (0, .ref a_m), (1, .int p1)]) hx hb (dq dt_X9_tells 6 rfl) rfl hl (by decide) rfl (fun ls hl => ?_)
  refine lv_aload_n hx hb (dq dt_X9_tells 7 rfl) rfl (lv_at hl 1 rfl) ?_
  refine lv_iconst (v := (0 : Int32)) hx hb (dq dt_X9_tells 8 rfl) (by decide) ?_
  refine lv_iload_n hx hb (dq dt_X9_tells 9 rfl) rfl (lv_at hl 2 rfl) ?_
  obtain ⟨v3, hr4, hF⟩ := zc1_ hF
  refine kCallVR C hw (A_X9_hears l D cB cI cJ cZ ad a_m a_m_row a_m_isKept a_m_text a_m_read a_m_tides a_m_seeps a_m_kinds a_m_paces a_m_ears a_m_hearers a_m_chosen a_m_dues a_m_sights m_length m_readMany m_yards m_seepMany m_many m_at m_place m_end m_readYards m_readSeeps m_readChildren m_chosenMany m_seenMany m_row m_seeps m_kinds m_ears (0 : Int32) p1 v3 hr4) (cwV 2 C.2.2.2.2.2.2.1 (w0_V0 q5_45 q5_42 q5_44 (ws0 36 rfl) q1_10) rfl rfl rfl kd_X9_hears ⟨Nat.le_of_ble_eq_true rfl, Nat.le_of_ble_eq_true rfl⟩) [0, 1, 2, 3, 4] rfl rfl 0 9 rfl rfl hl.1 rfl rfl rfl (Nat.le_of_ble_eq_true rfl) ⟨Nat.le_of_ble_eq_true rfl, Nat.le_of_ble_eq_true rfl⟩ (dq dt_X9_tells 10 rfl) (fun H locs hw => ?_)
  refine lv_istore_n (lv' := [(3, .int v3), (2, .int v1), (0, .ref a_m), (1, .int p1)]) hx hb (dq dt_X9_tells 11 rfl) rfl hl (by decide) rfl (fun ls hl => ?_)
  refine lv_iconst (v := (-1 : Int32)) hx hb (dq dt_X9_tells 12 rfl) (by decide) ?_
  refine lv_istore (lv' := [(4, .int (-1 : Int32)), (3, .int v3), (2, .int v1), (0, .ref a_m), (1, .int p1)]) hx hb (dq dt_X9_tells 13 rfl) hl (by decide) rfl (fun ls hl => ?_)
  refine lv_iconst (v := (0 : Int32)) hx hb (dq dt_X9_tells 14 rfl) (by decide) ?_
  refine lv_istore (lv' := [(5, .int (0 : Int32)), (4, .int (-1 : Int32)), (3, .int v3), (2, .int v1), (0, .ref a_m), (1, .int p1)]) hx hb (dq dt_X9_tells 15 rfl) hl (by decide) rfl (fun ls hl => ?_)
  obtain ⟨K7, hK07, hK7, hF⟩ := zl2_ hF
  have L7 : ∀ (n : Nat) (x5 : Int32) (x6 : Int32), K7 n x5 x6 = some r → ∀ (H : Heap) (locs : List Loc) (ls : Array Slot), kW D A s.heap [(a_m, .inr (9, [.ref a_m_row, .ref a_m_isKept, .ref a_m_text, .int m_length, .ref a_m_read, .int m_readMany, .int m_yards, .ref a_m_tides, .ref a_m_seeps, .int m_seepMany, .ref a_m_kinds, .ref a_m_paces, .ref a_m_ears, .int m_many, .int m_at, .int m_place, .int m_end, .int m_readYards, .int m_readSeeps, .int m_readChildren, .ref a_m_hearers, .ref a_m_chosen, .int m_chosenMany, .ref a_m_dues, .ref a_m_sights, .int m_seenMany])), (a_m_row, .inl (cI, 95, .inl m_row)), (a_m_seeps, .inl (cI, 18, .inl m_seeps)), (a_m_kinds, .inl (cI, 5, .inl m_kinds)), (a_m_ears, .inl (cI, 5, .inl m_ears))] H locs → lv_has ls 8 [(0, .ref a_m), (1, .int p1), (2, .int v1), (3, .int v3), (4, .int x5), (5, .int x6)] → W p l e rm_X9_tells s m args below meth c H locs 0 0 Q (F0 m 23 ls []) := by
    intro n
    induction n with
    | zero => intro x5 x6 hF; exact (lp_no (hK07 x5 x6) hF).elim
    | succ n ih7 =>
      intro x5 x6 hF H locs ls hw hl
      replace hF := hK7 n x5 x6 hF
      refine lv_iload hx hb (dq dt_X9_tells 16 rfl) (lv_at hl 5 rfl) ?_
      refine lv_aload_n hx hb (dq dt_X9_tells 17 rfl) rfl (lv_at hl 0 rfl) ?_
      refine kGet (ci := 9) C in_X9 hw 0 rfl rfl 6 (by decide) (C.2.2.2.2.2.2.1 _ q4_101) rfl rfl (dq dt_X9_tells 18 rfl) ?_
      refine lv_icmp_ge (tgt := 129) hx hb (dq dt_X9_tells 19 rfl) (by decide) (fun c8 => ?_) (fun c8 => ?_)
      · replace hF := if_t c8 hF
        refine lv_aload_n hx hb (dq dt_X9_tells 66 rfl) rfl (lv_at hl 0 rfl) ?_
        refine kGet (ci := 9) C in_X9 hw 0 rfl rfl 10 (by decide) (C.2.2.2.2.2.2.1 _ q4_105) rfl rfl (dq dt_X9_tells 67 rfl) ?_
        refine lv_iload_n hx hb (dq dt_X9_tells 68 rfl) rfl (lv_at hl 1 rfl) ?_
        obtain ⟨v9, ev9, hi10, hF⟩ := rd_ hF
        refine kIald C hw 3 1 rfl rfl hi10 ev9 (dq dt_X9_tells 69 rfl) ?_
        refine lv_iconst (v := (2 : Int32)) hx hb (dq dt_X9_tells 70 rfl) (by decide) ?_
        refine lv_icmp_ne (tgt := 143) hx hb (dq dt_X9_tells 71 rfl) (by decide) (fun c11 => ?_) (fun c11 => ?_)
        · replace hF := if_f c11 hF
          refine lv_iload hx hb (dq dt_X9_tells 74 rfl) (lv_at hl 4 rfl) ?_
          cases hF
          exact kRetI hQ C hw (dq dt_X9_tells 75 rfl)
        · replace hF := if_t c11 hF
          refine lv_iload_n hx hb (dq dt_X9_tells 72 rfl) rfl (lv_at hl 2 rfl) ?_
          refine lv_goto (tgt := 145) hx hb (dq dt_X9_tells 73 rfl) (by decide) ?_
          cases hF
          exact kRetI hQ C hw (dq dt_X9_tells 75 rfl)
      · replace hF := if_f c8 hF
        refine lv_iconst (v := (0 : Int32)) hx hb (dq dt_X9_tells 20 rfl) (by decide) ?_
        refine lv_istore (lv' := [(6, .int (0 : Int32)), (0, .ref a_m), (1, .int p1), (2, .int v1), (3, .int v3), (4, .int x5), (5, .int x6)]) hx hb (dq dt_X9_tells 21 rfl) hl (by decide) rfl (fun ls hl => ?_)
        refine lv_iconst (v := (0 : Int32)) hx hb (dq dt_X9_tells 22 rfl) (by decide) ?_
        refine lv_istore (lv' := [(7, .int (0 : Int32)), (6, .int (0 : Int32)), (0, .ref a_m), (1, .int p1), (2, .int v1), (3, .int v3), (4, .int x5), (5, .int x6)]) hx hb (dq dt_X9_tells 23 rfl) hl (by decide) rfl (fun ls hl => ?_)
        obtain ⟨K14, hK014, hK14, hF⟩ := zl2_ hF
        have L14 : ∀ (n : Nat) (x12 : Int32) (x13 : Int32), K14 n x12 x13 = some r → ∀ (H : Heap) (locs : List Loc) (ls : Array Slot), kW D A s.heap [(a_m, .inr (9, [.ref a_m_row, .ref a_m_isKept, .ref a_m_text, .int m_length, .ref a_m_read, .int m_readMany, .int m_yards, .ref a_m_tides, .ref a_m_seeps, .int m_seepMany, .ref a_m_kinds, .ref a_m_paces, .ref a_m_ears, .int m_many, .int m_at, .int m_place, .int m_end, .int m_readYards, .int m_readSeeps, .int m_readChildren, .ref a_m_hearers, .ref a_m_chosen, .int m_chosenMany, .ref a_m_dues, .ref a_m_sights, .int m_seenMany])), (a_m_row, .inl (cI, 95, .inl m_row)), (a_m_seeps, .inl (cI, 18, .inl m_seeps)), (a_m_kinds, .inl (cI, 5, .inl m_kinds)), (a_m_ears, .inl (cI, 5, .inl m_ears))] H locs → lv_has ls 8 [(0, .ref a_m), (1, .int p1), (2, .int v1), (3, .int v3), (4, .int x5), (5, .int x6), (6, .int x12), (7, .int x13)] → W p l e rm_X9_tells s m args below meth c H locs 0 0 Q (F0 m 38 ls []) := by
          intro n
          induction n with
          | zero => intro x12 x13 hF; exact (lp_no (hK014 x12 x13) hF).elim
          | succ n ih14 =>
            intro x12 x13 hF H locs ls hw hl
            replace hF := hK14 n x12 x13 hF
            refine lv_iload hx hb (dq dt_X9_tells 24 rfl) (lv_at hl 7 rfl) ?_
            refine lv_aload_n hx hb (dq dt_X9_tells 25 rfl) rfl (lv_at hl 0 rfl) ?_
            refine kGet (ci := 9) C in_X9 hw 0 rfl rfl 9 (by decide) (C.2.2.2.2.2.2.1 _ q4_104) rfl rfl (dq dt_X9_tells 26 rfl) ?_
            refine lv_icmp_ge (tgt := 88) hx hb (dq dt_X9_tells 27 rfl) (by decide) (fun c15 => ?_) (fun c15 => ?_)
            · replace hF := if_t c15 hF
              refine lv_iload hx hb (dq dt_X9_tells 48 rfl) (lv_at hl 6 rfl) ?_
              obtain ⟨K16, hK16, hF⟩ := zj0_ hF
              have J16 : K16 = some r → ∀ (H : Heap) (locs : List Loc) (ls : Array Slot), kW D A s.heap [(a_m, .inr (9, [.ref a_m_row, .ref a_m_isKept, .ref a_m_text, .int m_length, .ref a_m_read, .int m_readMany, .int m_yards, .ref a_m_tides, .ref a_m_seeps, .int m_seepMany, .ref a_m_kinds, .ref a_m_paces, .ref a_m_ears, .int m_many, .int m_at, .int m_place, .int m_end, .int m_readYards, .int m_readSeeps, .int m_readChildren, .ref a_m_hearers, .ref a_m_chosen, .int m_chosenMany, .ref a_m_dues, .ref a_m_sights, .int m_seenMany])), (a_m_row, .inl (cI, 95, .inl m_row)), (a_m_seeps, .inl (cI, 18, .inl m_seeps)), (a_m_kinds, .inl (cI, 5, .inl m_kinds)), (a_m_ears, .inl (cI, 5, .inl m_ears))] H locs → lv_has ls 8 [(0, .ref a_m), (1, .int p1), (2, .int v1), (3, .int v3), (4, .int x5), (5, .int x6)] → W p l e rm_X9_tells s m args below meth c H locs 0 0 Q (F0 m 119 ls []) := by
                intro hF H locs ls hw hl
                replace hF := hK16 hF
                refine lv_iload hx hb (dq dt_X9_tells 62 rfl) (lv_at hl 4 rfl) ?_
                refine lv_istore (lv' := [(4, .int x5), (0, .ref a_m), (1, .int p1), (2, .int v1), (3, .int v3), (5, .int x6)]) hx hb (dq dt_X9_tells 63 rfl) hl (by decide) rfl (fun ls hl => ?_)
                obtain ⟨v17, ev17, hF⟩ := bd_ hF
                refine lv_iinc (v := v17) (lv' := [(5, .int v17), (4, .int x5), (0, .ref a_m), (1, .int p1), (2, .int v1), (3, .int v3)]) hx hb (dq dt_X9_tells 64 rfl) hl (k := 5) rfl ev17.symm (by decide) rfl (fun ls hl => ?_)
                refine lv_goto (tgt := 23) hx hb (dq dt_X9_tells 65 rfl) (by decide) ?_
                exact ih7 x5 v17 hF _ _ _ hw (lv_sub hl [2, 3, 4, 5, 1, 0] rfl)
              refine lv_if_eq (tgt := 119) hx hb (dq dt_X9_tells 49 rfl) (by decide) (fun c18 => ?_) (fun c18 => ?_)
              · replace hF := if_t c18 hF
                exact J16 hF _ _ _ hw (lv_sub hl [0, 1, 2, 3, 4, 5] rfl)
              · replace hF := if_f c18 hF
                refine lv_iload hx hb (dq dt_X9_tells 50 rfl) (lv_at hl 4 rfl) ?_
                refine lv_iconst (v := (-1 : Int32)) hx hb (dq dt_X9_tells 51 rfl) (by decide) ?_
                obtain ⟨K19, hK19, hF⟩ := zj0_ hF
                have J19 : K19 = some r → ∀ (H : Heap) (locs : List Loc) (ls : Array Slot), kW D A s.heap [(a_m, .inr (9, [.ref a_m_row, .ref a_m_isKept, .ref a_m_text, .int m_length, .ref a_m_read, .int m_readMany, .int m_yards, .ref a_m_tides, .ref a_m_seeps, .int m_seepMany, .ref a_m_kinds, .ref a_m_paces, .ref a_m_ears, .int m_many, .int m_at, .int m_place, .int m_end, .int m_readYards, .int m_readSeeps, .int m_readChildren, .ref a_m_hearers, .ref a_m_chosen, .int m_chosenMany, .ref a_m_dues, .ref a_m_sights, .int m_seenMany])), (a_m_row, .inl (cI, 95, .inl m_row)), (a_m_seeps, .inl (cI, 18, .inl m_seeps)), (a_m_kinds, .inl (cI, 5, .inl m_kinds)), (a_m_ears, .inl (cI, 5, .inl m_ears))] H locs → lv_has ls 8 [(0, .ref a_m), (1, .int p1), (2, .int v1), (3, .int v3), (5, .int x6)] → W p l e rm_X9_tells s m args below meth c H locs 0 0 Q (F0 m 114 ls []) := by
                  intro hF H locs ls hw hl
                  replace hF := hK19 hF
                  refine lv_iload hx hb (dq dt_X9_tells 60 rfl) (lv_at hl 4 rfl) ?_
                  refine lv_goto (tgt := 121) hx hb (dq dt_X9_tells 61 rfl) (by decide) ?_
                  refine lv_istore (lv' := [(4, .int x6), (0, .ref a_m), (1, .int p1), (2, .int v1), (3, .int v3), (5, .int x6)]) hx hb (dq dt_X9_tells 63 rfl) hl (by decide) rfl (fun ls hl => ?_)
                  obtain ⟨v20, ev20, hF⟩ := bd_ hF
                  refine lv_iinc (v := v20) (lv' := [(5, .int v20), (4, .int x6), (0, .ref a_m), (1, .int p1), (2, .int v1), (3, .int v3)]) hx hb (dq dt_X9_tells 64 rfl) hl (k := 5) rfl ev20.symm (by decide) rfl (fun ls hl => ?_)
                  refine lv_goto (tgt := 23) hx hb (dq dt_X9_tells 65 rfl) (by decide) ?_
                  exact ih7 x6 v20 hF _ _ _ hw (lv_sub hl [2, 3, 4, 5, 1, 0] rfl)
                refine lv_icmp_eq (tgt := 114) hx hb (dq dt_X9_tells 52 rfl) (by decide) (fun c21 => ?_) (fun c21 => ?_)
                · replace hF := if_t c21 hF
                  exact J19 hF _ _ _ hw (lv_sub hl [0, 1, 2, 3, 5] rfl)
                · replace hF := if_f c21 hF
                  refine lv_iload_n hx hb (dq dt_X9_tells 53 rfl) rfl (lv_at hl 2 rfl) ?_
                  refine lv_iload hx hb (dq dt_X9_tells 54 rfl) (lv_at hl 5 rfl) ?_
                  obtain ⟨v22, hr23, hF⟩ := zc1_ hF
                  refine kCallSP C hw (A_X9_far l D cB cI cJ cZ ad v1 x6 v22 hr23) (va_cwS 2 C.2.2.2.2.2.2.1 (w0_S0 q5_55 q5_53 q5_54 q1_10) rfl rfl rfl ke_X9_far ⟨Nat.le_of_ble_eq_true rfl, Nat.le_of_ble_eq_true rfl⟩) hl.1 rfl rfl rfl (Nat.le_of_ble_eq_true rfl) ⟨Nat.le_of_ble_eq_true rfl, Nat.le_of_ble_eq_true rfl⟩ (dq dt_X9_tells 55 rfl) (fun H locs hw => ?_)
                  refine lv_iload_n hx hb (dq dt_X9_tells 56 rfl) rfl (lv_at hl 2 rfl) ?_
                  refine lv_iload hx hb (dq dt_X9_tells 57 rfl) (lv_at hl 4 rfl) ?_
                  obtain ⟨v24, hr25, hF⟩ := zc1_ hF
                  refine kCallSP C hw (A_X9_far l D cB cI cJ cZ ad v1 x5 v24 hr25) (va_cwS 2 C.2.2.2.2.2.2.1 (w0_S0 q5_55 q5_53 q5_54 q1_10) rfl rfl rfl ke_X9_far ⟨Nat.le_of_ble_eq_true rfl, Nat.le_of_ble_eq_true rfl⟩) hl.1 rfl rfl rfl (Nat.le_of_ble_eq_true rfl) ⟨Nat.le_of_ble_eq_true rfl, Nat.le_of_ble_eq_true rfl⟩ (dq dt_X9_tells 58 rfl) (fun H locs hw => ?_)
                  refine lv_icmp_ge (tgt := 119) hx hb (dq dt_X9_tells 59 rfl) (by decide) (fun c26 => ?_) (fun c26 => ?_)
                  · replace hF := if_t c26 hF
                    exact J16 hF _ _ _ hw (lv_sub hl [0, 1, 2, 3, 4, 5] rfl)
                  · replace hF := if_f c26 hF
                    exact J19 hF _ _ _ hw (lv_sub hl [0, 1, 2, 3, 5] rfl)
            · replace hF := if_f c15 hF
              refine lv_iload hx hb (dq dt_X9_tells 28 rfl) (lv_at hl 6 rfl) ?_
              obtain ⟨K27, hK27, hF⟩ := zj0_ hF
              have J27 : K27 = some r → ∀ (H : Heap) (locs : List Loc) (ls : Array Slot), kW D A s.heap [(a_m, .inr (9, [.ref a_m_row, .ref a_m_isKept, .ref a_m_text, .int m_length, .ref a_m_read, .int m_readMany, .int m_yards, .ref a_m_tides, .ref a_m_seeps, .int m_seepMany, .ref a_m_kinds, .ref a_m_paces, .ref a_m_ears, .int m_many, .int m_at, .int m_place, .int m_end, .int m_readYards, .int m_readSeeps, .int m_readChildren, .ref a_m_hearers, .ref a_m_chosen, .int m_chosenMany, .ref a_m_dues, .ref a_m_sights, .int m_seenMany])), (a_m_row, .inl (cI, 95, .inl m_row)), (a_m_seeps, .inl (cI, 18, .inl m_seeps)), (a_m_kinds, .inl (cI, 5, .inl m_kinds)), (a_m_ears, .inl (cI, 5, .inl m_ears))] H locs → lv_has ls 8 [(0, .ref a_m), (1, .int p1), (2, .int v1), (3, .int v3), (4, .int x5), (5, .int x6), (7, .int x13)] → W p l e rm_X9_tells s m args below meth c H locs 0 0 Q (F0 m 75 ls []) := by
                intro hF H locs ls hw hl
                replace hF := hK27 hF
                refine lv_iconst (v := (1 : Int32)) hx hb (dq dt_X9_tells 42 rfl) (by decide) ?_
                refine lv_goto (tgt := 80) hx hb (dq dt_X9_tells 43 rfl) (by decide) ?_
                refine lv_istore (lv' := [(6, .int (1 : Int32)), (0, .ref a_m), (1, .int p1), (2, .int v1), (3, .int v3), (4, .int x5), (5, .int x6), (7, .int x13)]) hx hb (dq dt_X9_tells 45 rfl) hl (by decide) rfl (fun ls hl => ?_)
                obtain ⟨v28, ev28, hF⟩ := bd_ hF
                refine lv_iinc (v := v28) (lv' := [(7, .int v28), (6, .int (1 : Int32)), (0, .ref a_m), (1, .int p1), (2, .int v1), (3, .int v3), (4, .int x5), (5, .int x6)]) hx hb (dq dt_X9_tells 46 rfl) hl (k := 7) rfl ev28.symm (by decide) rfl (fun ls hl => ?_)
                refine lv_goto (tgt := 38) hx hb (dq dt_X9_tells 47 rfl) (by decide) ?_
                exact ih14 (1 : Int32) v28 hF _ _ _ hw (lv_sub hl [2, 3, 4, 5, 6, 7, 1, 0] rfl)
              refine lv_if_ne (tgt := 75) hx hb (dq dt_X9_tells 29 rfl) (by decide) (fun c29 => ?_) (fun c29 => ?_)
              · replace hF := if_f c29 hF
                exact J27 hF _ _ _ hw (lv_sub hl [0, 1, 2, 3, 4, 5, 7] rfl)
              · replace hF := if_t c29 hF
                refine lv_iload_n hx hb (dq dt_X9_tells 30 rfl) rfl (lv_at hl 3 rfl) ?_
                refine lv_iload hx hb (dq dt_X9_tells 31 rfl) (lv_at hl 7 rfl) ?_
                obtain ⟨v30, hr31, hF⟩ := zc1_ hF
                refine kCallSP C hw (A_X9_has l D cB cI cJ cZ ad v3 x13 v30 hr31) (va_cwS 2 C.2.2.2.2.2.2.1 (w0_S0 q5_52 q5_50 q5_51 q1_10) rfl rfl rfl ke_X9_has ⟨Nat.le_of_ble_eq_true rfl, Nat.le_of_ble_eq_true rfl⟩) hl.1 rfl rfl rfl (Nat.le_of_ble_eq_true rfl) ⟨Nat.le_of_ble_eq_true rfl, Nat.le_of_ble_eq_true rfl⟩ (dq dt_X9_tells 32 rfl) (fun H locs hw => ?_)
                obtain ⟨K32, hK32, hF⟩ := zj0_ hF
                have J32 : K32 = some r → ∀ (H : Heap) (locs : List Loc) (ls : Array Slot), kW D A s.heap [(a_m, .inr (9, [.ref a_m_row, .ref a_m_isKept, .ref a_m_text, .int m_length, .ref a_m_read, .int m_readMany, .int m_yards, .ref a_m_tides, .ref a_m_seeps, .int m_seepMany, .ref a_m_kinds, .ref a_m_paces, .ref a_m_ears, .int m_many, .int m_at, .int m_place, .int m_end, .int m_readYards, .int m_readSeeps, .int m_readChildren, .ref a_m_hearers, .ref a_m_chosen, .int m_chosenMany, .ref a_m_dues, .ref a_m_sights, .int m_seenMany])), (a_m_row, .inl (cI, 95, .inl m_row)), (a_m_seeps, .inl (cI, 18, .inl m_seeps)), (a_m_kinds, .inl (cI, 5, .inl m_kinds)), (a_m_ears, .inl (cI, 5, .inl m_ears))] H locs → lv_has ls 8 [(0, .ref a_m), (1, .int p1), (2, .int v1), (3, .int v3), (4, .int x5), (5, .int x6), (7, .int x13)] → W p l e rm_X9_tells s m args below meth c H locs 0 0 Q (F0 m 79 ls []) := by
                  intro hF H locs ls hw hl
                  replace hF := hK32 hF
                  refine lv_iconst (v := (0 : Int32)) hx hb (dq dt_X9_tells 44 rfl) (by decide) ?_
                  refine lv_istore (lv' := [(6, .int (0 : Int32)), (0, .ref a_m), (1, .int p1), (2, .int v1), (3, .int v3), (4, .int x5), (5, .int x6), (7, .int x13)]) hx hb (dq dt_X9_tells 45 rfl) hl (by decide) rfl (fun ls hl => ?_)
                  obtain ⟨v33, ev33, hF⟩ := bd_ hF
                  refine lv_iinc (v := v33) (lv' := [(7, .int v33), (6, .int (0 : Int32)), (0, .ref a_m), (1, .int p1), (2, .int v1), (3, .int v3), (4, .int x5), (5, .int x6)]) hx hb (dq dt_X9_tells 46 rfl) hl (k := 7) rfl ev33.symm (by decide) rfl (fun ls hl => ?_)
                  refine lv_goto (tgt := 38) hx hb (dq dt_X9_tells 47 rfl) (by decide) ?_
                  exact ih14 (0 : Int32) v33 hF _ _ _ hw (lv_sub hl [2, 3, 4, 5, 6, 7, 1, 0] rfl)
                refine lv_if_eq (tgt := 79) hx hb (dq dt_X9_tells 33 rfl) (by decide) (fun c34 => ?_) (fun c34 => ?_)
                · replace hF := if_t c34 hF
                  exact J32 hF _ _ _ hw (lv_sub hl [0, 1, 2, 3, 4, 5, 7] rfl)
                · replace hF := if_f c34 hF
                  refine lv_aload_n hx hb (dq dt_X9_tells 34 rfl) rfl (lv_at hl 0 rfl) ?_
                  refine kGet (ci := 9) C in_X9 hw 0 rfl rfl 8 (by decide) (C.2.2.2.2.2.2.1 _ q4_103) rfl rfl (dq dt_X9_tells 35 rfl) ?_
                  refine lv_iconst (v := (3 : Int32)) hx hb (dq dt_X9_tells 36 rfl) (by decide) ?_
                  refine lv_iload hx hb (dq dt_X9_tells 37 rfl) (lv_at hl 7 rfl) ?_
                  refine lv_imul hx hb (dq dt_X9_tells 38 rfl) ?_
                  obtain ⟨v35, ev35, hi36, hF⟩ := rd_ hF
                  refine kIald C hw 2 1 rfl rfl hi36 ev35 (dq dt_X9_tells 39 rfl) ?_
                  refine lv_iload hx hb (dq dt_X9_tells 40 rfl) (lv_at hl 5 rfl) ?_
                  refine lv_icmp_ne (tgt := 79) hx hb (dq dt_X9_tells 41 rfl) (by decide) (fun c37 => ?_) (fun c37 => ?_)
                  · replace hF := if_f c37 hF
                    exact J32 hF _ _ _ hw (lv_sub hl [0, 1, 2, 3, 4, 5, 7] rfl)
                  · replace hF := if_t c37 hF
                    exact J27 hF _ _ _ hw (lv_sub hl [0, 1, 2, 3, 4, 5, 7] rfl)
        exact L14 _ (0 : Int32) (0 : Int32) hF _ _ _ hw (lv_sub hl [2, 3, 4, 5, 6, 7, 1, 0] rfl)
  exact L7 _ (-1 : Int32) (0 : Int32) hF _ _ _ hw (lv_sub hl [4, 5, 3, 2, 1, 0] rfl)
def F_X9_child (m_yards : Int32) (m_seepMany : Int32) (m_many : Int32) (m_row : Nat → Int32) (m_seeps : Nat → Int32) (m_kinds : Nat → Int32) (m_paces : Nat → Int32) (m_ears : Nat → Int32) (p1 : Int32) (p2 : Int32) : Option (Int32) :=
  zc1 (F_X9_isChild m_many p1) (fun v1 => if v1 = 0 then (some (-2 : Int32)) else (if p2 = (0 : Int32) then (rd 5 m_kinds p1 (fun v5 => some v5)) else (if p2 = (1 : Int32) then (rd 95 m_row ((7 : Int32) + p1) (fun v8 => some v8)) else (if p2 = (2 : Int32) then (rd 5 m_paces p1 (fun v11 => some v11)) else (if p2 = (3 : Int32) then (zc1 (F_X9_earOf m_row m_kinds m_ears (0 : Int32) p1) (fun v14 => some v14)) else (if p2 = (4 : Int32) then (rd 95 m_row (12 : Int32) (fun v17 => some ((v17 >>> (p1 &&& 31)) &&& (1 : Int32)))) else (if p2 = (5 : Int32) then (rd 95 m_row ((13 : Int32) + p1) (fun v20 => some v20)) else (if p2 = (6 : Int32) then (zc1 (F_X9_tells m_yards m_seepMany m_row m_seeps m_kinds m_ears p1) (fun v23 => some v23)) else (some (-3 : Int32))))))))))
abbrev rm_X9_child : Room := { frames := 4, cells := 0, slots := 0, locals := 95 }
theorem kd_X9_child : yX9_child.cls = RX9 ∧ yX9_child.cls ≠ "java/lang/invoke/MethodHandle" ∧ yX9_child.cls ≠ "java/lang/invoke/VarHandle" ∧ (parseMethodDescriptor yX9_child.desc).map (fun d => d.parameters.length) = some 2 := by decide +kernel
set_option maxRecDepth 100000 in
set_option maxHeartbeats 4000000 in
theorem A_X9_child (l : Launch) (D : va_G) (cB cI cJ cZ : ClassId) (ad : (Nat → Nat) × (Nat → Nat)) (a_m a_m_row a_m_isKept a_m_text a_m_read a_m_tides a_m_seeps a_m_kinds a_m_paces a_m_ears a_m_hearers a_m_chosen a_m_dues a_m_sights : Nat) (m_length : Int32) (m_readMany : Int32) (m_yards : Int32) (m_seepMany : Int32) (m_many : Int32) (m_at : Int32) (m_place : Int32) (m_end : Int32) (m_readYards : Int32) (m_readSeeps : Int32) (m_readChildren : Int32) (m_chosenMany : Int32) (m_seenMany : Int32) (m_row : Nat → Int32) (m_seeps : Nat → Int32) (m_kinds : Nat → Int32) (m_paces : Nat → Int32) (m_ears : Nat → Int32) (p1 : Int32) (p2 : Int32) (r : Int32) (hF : F_X9_child m_yards m_seepMany m_many m_row m_seeps m_kinds m_paces m_ears p1 p2 = some r) : kM l yX9_child (Cond.code yX9_child cX9_child 3 (some .int) :: W0) rm_X9_child D (kT cB cI cJ cZ) ad [.ref a_m, .int p1, .int p2] [(a_m, .inr (9, [.ref a_m_row, .ref a_m_isKept, .ref a_m_text, .int m_length, .ref a_m_read, .int m_readMany, .int m_yards, .ref a_m_tides, .ref a_m_seeps, .int m_seepMany, .ref a_m_kinds, .ref a_m_paces, .ref a_m_ears, .int m_many, .int m_at, .int m_place, .int m_end, .int m_readYards, .int m_readSeeps, .int m_readChildren, .ref a_m_hearers, .ref a_m_chosen, .int m_chosenMany, .ref a_m_dues, .ref a_m_sights, .int m_seenMany])), (a_m_row, .inl (cI, 95, .inl m_row)), (a_m_seeps, .inl (cI, 18, .inl m_seeps)), (a_m_kinds, .inl (cI, 5, .inl m_kinds)), (a_m_paces, .inl (cI, 5, .inl m_paces)), (a_m_ears, .inl (cI, 5, .inl m_ears))] (some (.int r)) [(a_m, .inr (9, [.ref a_m_row, .ref a_m_isKept, .ref a_m_text, .int m_length, .ref a_m_read, .int m_readMany, .int m_yards, .ref a_m_tides, .ref a_m_seeps, .int m_seepMany, .ref a_m_kinds, .ref a_m_paces, .ref a_m_ears, .int m_many, .int m_at, .int m_place, .int m_end, .int m_readYards, .int m_readSeeps, .int m_readChildren, .ref a_m_hearers, .ref a_m_chosen, .int m_chosenMany, .ref a_m_dues, .ref a_m_sights, .int m_seenMany])), (a_m_row, .inl (cI, 95, .inl m_row)), (a_m_seeps, .inl (cI, 18, .inl m_seeps)), (a_m_kinds, .inl (cI, 5, .inl m_kinds)), (a_m_paces, .inl (cI, 5, .inl m_paces)), (a_m_ears, .inl (cI, 5, .inl m_ears))] := by
  unfold F_X9_child at hF
  refine kStart (lv := [(0, .ref a_m), (1, .int p1), (2, .int p2)]) (own := "DikeWatchModel") (plainFor_of_name (by decide)) rfl (Nat.le_of_ble_eq_true rfl) rfl ?_
  intro p e s m args below meth c A Q ls hQ C hx hb hw hl
  refine lv_aload_n hx hb (dq dt_X9_child 0 rfl) rfl (lv_at hl 0 rfl) ?_
  refine lv_iload_n hx hb (dq dt_X9_child 1 rfl) rfl (lv_at hl 1 rfl) ?_
  obtain ⟨v1, hr2, hF⟩ := zc1_ hF
  refine kCallVR C hw (A_X9_isChild l D cB cI cJ cZ ad a_m a_m_row a_m_isKept a_m_text a_m_read a_m_tides a_m_seeps a_m_kinds a_m_paces a_m_ears a_m_hearers a_m_chosen a_m_dues a_m_sights m_length m_readMany m_yards m_seepMany m_many m_at m_place m_end m_readYards m_readSeeps m_readChildren m_chosenMany m_seenMany p1 v1 hr2) (cwV 1 C.2.2.2.2.2.2.1 (w0_V0 q5_33 q5_30 q5_32 (ws0 33 rfl) q1_10) rfl rfl rfl kd_X9_isChild ⟨Nat.le_of_ble_eq_true rfl, Nat.le_of_ble_eq_true rfl⟩) [0] rfl rfl 0 9 rfl rfl hl.1 rfl rfl rfl (Nat.le_of_ble_eq_true rfl) ⟨Nat.le_of_ble_eq_true rfl, Nat.le_of_ble_eq_true rfl⟩ (dq dt_X9_child 2 rfl) (fun H locs hw => ?_)
  refine lv_if_ne (tgt := 11) hx hb (dq dt_X9_child 3 rfl) (by decide) (fun c3 => ?_) (fun c3 => ?_)
  · replace hF := if_f c3 hF
    refine lv_iload_n hx hb (dq dt_X9_child 6 rfl) rfl (lv_at hl 2 rfl) ?_
    by_cases c4 : p2 = (0 : Int32)
    · replace hF := if_t c4 hF
      refine lv_tableIn (lo := 0) (hi := 6) (tgt := 56) hx hb (dq dt_X9_child 7 rfl) (by rw [c4]; decide) (by rw [c4]; decide) (by rw [c4]; rfl) (by decide) ?_
      refine lv_aload_n hx hb (dq dt_X9_child 8 rfl) rfl (lv_at hl 0 rfl) ?_
      refine kGet (ci := 9) C in_X9 hw 0 rfl rfl 10 (by decide) (C.2.2.2.2.2.2.1 _ q4_105) rfl rfl (dq dt_X9_child 9 rfl) ?_
      refine lv_iload_n hx hb (dq dt_X9_child 10 rfl) rfl (lv_at hl 1 rfl) ?_
      obtain ⟨v5, ev5, hi6, hF⟩ := rd_ hF
      refine kIald C hw 3 1 rfl rfl hi6 ev5 (dq dt_X9_child 11 rfl) ?_
      cases hF
      exact kRetI hQ C hw (dq dt_X9_child 12 rfl)
    replace hF := if_f c4 hF
    by_cases c7 : p2 = (1 : Int32)
    · replace hF := if_t c7 hF
      refine lv_tableIn (lo := 0) (hi := 6) (tgt := 63) hx hb (dq dt_X9_child 7 rfl) (by rw [c7]; decide) (by rw [c7]; decide) (by rw [c7]; rfl) (by decide) ?_
      refine lv_aload_n hx hb (dq dt_X9_child 13 rfl) rfl (lv_at hl 0 rfl) ?_
      refine kGet (ci := 9) C in_X9 hw 0 rfl rfl 0 (by decide) (C.2.2.2.2.2.2.1 _ q4_95) rfl rfl (dq dt_X9_child 14 rfl) ?_
      refine lv_bipush (v := (7 : Int32)) hx hb (dq dt_X9_child 15 rfl) (by decide) ?_
      refine lv_iload_n hx hb (dq dt_X9_child 16 rfl) rfl (lv_at hl 1 rfl) ?_
      refine lv_iadd hx hb (dq dt_X9_child 17 rfl) ?_
      obtain ⟨v8, ev8, hi9, hF⟩ := rd_ hF
      refine kIald C hw 1 1 rfl rfl hi9 ev8 (dq dt_X9_child 18 rfl) ?_
      cases hF
      exact kRetI hQ C hw (dq dt_X9_child 19 rfl)
    replace hF := if_f c7 hF
    by_cases c10 : p2 = (2 : Int32)
    · replace hF := if_t c10 hF
      refine lv_tableIn (lo := 0) (hi := 6) (tgt := 73) hx hb (dq dt_X9_child 7 rfl) (by rw [c10]; decide) (by rw [c10]; decide) (by rw [c10]; rfl) (by decide) ?_
      refine lv_aload_n hx hb (dq dt_X9_child 20 rfl) rfl (lv_at hl 0 rfl) ?_
      refine kGet (ci := 9) C in_X9 hw 0 rfl rfl 11 (by decide) (C.2.2.2.2.2.2.1 _ q4_106) rfl rfl (dq dt_X9_child 21 rfl) ?_
      refine lv_iload_n hx hb (dq dt_X9_child 22 rfl) rfl (lv_at hl 1 rfl) ?_
      obtain ⟨v11, ev11, hi12, hF⟩ := rd_ hF
      refine kIald C hw 4 1 rfl rfl hi12 ev11 (dq dt_X9_child 23 rfl) ?_
      cases hF
      exact kRetI hQ C hw (dq dt_X9_child 24 rfl)
    replace hF := if_f c10 hF
    by_cases c13 : p2 = (3 : Int32)
    · replace hF := if_t c13 hF
      refine lv_tableIn (lo := 0) (hi := 6) (tgt := 80) hx hb (dq dt_X9_child 7 rfl) (by rw [c13]; decide) (by rw [c13]; decide) (by rw [c13]; rfl) (by decide) ?_
      refine lv_aload_n hx hb (dq dt_X9_child 25 rfl) rfl (lv_at hl 0 rfl) ?_
      refine lv_iconst (v := (0 : Int32)) hx hb (dq dt_X9_child 26 rfl) (by decide) ?_
      refine lv_iload_n hx hb (dq dt_X9_child 27 rfl) rfl (lv_at hl 1 rfl) ?_
      obtain ⟨v14, hr15, hF⟩ := zc1_ hF
      refine kCallVR C hw (A_X9_earOf l D cB cI cJ cZ ad a_m a_m_row a_m_isKept a_m_text a_m_read a_m_tides a_m_seeps a_m_kinds a_m_paces a_m_ears a_m_hearers a_m_chosen a_m_dues a_m_sights m_length m_readMany m_yards m_seepMany m_many m_at m_place m_end m_readYards m_readSeeps m_readChildren m_chosenMany m_seenMany m_row m_kinds m_ears (0 : Int32) p1 v14 hr15) (cwV 2 C.2.2.2.2.2.2.1 (w0_V0 q5_37 q5_34 q5_36 (ws0 34 rfl) q1_10) rfl rfl rfl kd_X9_earOf ⟨Nat.le_of_ble_eq_true rfl, Nat.le_of_ble_eq_true rfl⟩) [0, 1, 3, 5] rfl rfl 0 9 rfl rfl hl.1 rfl rfl rfl (Nat.le_of_ble_eq_true rfl) ⟨Nat.le_of_ble_eq_true rfl, Nat.le_of_ble_eq_true rfl⟩ (dq dt_X9_child 28 rfl) (fun H locs hw => ?_)
      cases hF
      exact kRetI hQ C hw (dq dt_X9_child 29 rfl)
    replace hF := if_f c13 hF
    by_cases c16 : p2 = (4 : Int32)
    · replace hF := if_t c16 hF
      refine lv_tableIn (lo := 0) (hi := 6) (tgt := 87) hx hb (dq dt_X9_child 7 rfl) (by rw [c16]; decide) (by rw [c16]; decide) (by rw [c16]; rfl) (by decide) ?_
      refine lv_aload_n hx hb (dq dt_X9_child 30 rfl) rfl (lv_at hl 0 rfl) ?_
      refine kGet (ci := 9) C in_X9 hw 0 rfl rfl 0 (by decide) (C.2.2.2.2.2.2.1 _ q4_95) rfl rfl (dq dt_X9_child 31 rfl) ?_
      refine lv_bipush (v := (12 : Int32)) hx hb (dq dt_X9_child 32 rfl) (by decide) ?_
      obtain ⟨v17, ev17, hi18, hF⟩ := rd_ hF
      refine kIald C hw 1 1 rfl rfl hi18 ev17 (dq dt_X9_child 33 rfl) ?_
      refine lv_iload_n hx hb (dq dt_X9_child 34 rfl) rfl (lv_at hl 1 rfl) ?_
      refine lv_ishr hx hb (dq dt_X9_child 35 rfl) ?_
      refine lv_iconst (v := (1 : Int32)) hx hb (dq dt_X9_child 36 rfl) (by decide) ?_
      refine lv_iand hx hb (dq dt_X9_child 37 rfl) ?_
      cases hF
      exact kRetI hQ C hw (dq dt_X9_child 38 rfl)
    replace hF := if_f c16 hF
    by_cases c19 : p2 = (5 : Int32)
    · replace hF := if_t c19 hF
      refine lv_tableIn (lo := 0) (hi := 6) (tgt := 99) hx hb (dq dt_X9_child 7 rfl) (by rw [c19]; decide) (by rw [c19]; decide) (by rw [c19]; rfl) (by decide) ?_
      refine lv_aload_n hx hb (dq dt_X9_child 39 rfl) rfl (lv_at hl 0 rfl) ?_
      refine kGet (ci := 9) C in_X9 hw 0 rfl rfl 0 (by decide) (C.2.2.2.2.2.2.1 _ q4_95) rfl rfl (dq dt_X9_child 40 rfl) ?_
      refine lv_bipush (v := (13 : Int32)) hx hb (dq dt_X9_child 41 rfl) (by decide) ?_
      refine lv_iload_n hx hb (dq dt_X9_child 42 rfl) rfl (lv_at hl 1 rfl) ?_
      refine lv_iadd hx hb (dq dt_X9_child 43 rfl) ?_
      obtain ⟨v20, ev20, hi21, hF⟩ := rd_ hF
      refine kIald C hw 1 1 rfl rfl hi21 ev20 (dq dt_X9_child 44 rfl) ?_
      cases hF
      exact kRetI hQ C hw (dq dt_X9_child 45 rfl)
    replace hF := if_f c19 hF
    by_cases c22 : p2 = (6 : Int32)
    · replace hF := if_t c22 hF
      refine lv_tableIn (lo := 0) (hi := 6) (tgt := 109) hx hb (dq dt_X9_child 7 rfl) (by rw [c22]; decide) (by rw [c22]; decide) (by rw [c22]; rfl) (by decide) ?_
      refine lv_aload_n hx hb (dq dt_X9_child 46 rfl) rfl (lv_at hl 0 rfl) ?_
      refine lv_iload_n hx hb (dq dt_X9_child 47 rfl) rfl (lv_at hl 1 rfl) ?_
      obtain ⟨v23, hr24, hF⟩ := zc1_ hF
      refine kCallVR C hw (A_X9_tells l D cB cI cJ cZ ad a_m a_m_row a_m_isKept a_m_text a_m_read a_m_tides a_m_seeps a_m_kinds a_m_paces a_m_ears a_m_hearers a_m_chosen a_m_dues a_m_sights m_length m_readMany m_yards m_seepMany m_many m_at m_place m_end m_readYards m_readSeeps m_readChildren m_chosenMany m_seenMany m_row m_seeps m_kinds m_ears p1 v23 hr24) (cwV 1 C.2.2.2.2.2.2.1 (w0_V0 q5_41 q5_38 q5_40 (ws0 35 rfl) q1_10) rfl rfl rfl kd_X9_tells ⟨Nat.le_of_ble_eq_true rfl, Nat.le_of_ble_eq_true rfl⟩) [0, 1, 2, 3, 5] rfl rfl 0 9 rfl rfl hl.1 rfl rfl rfl (Nat.le_of_ble_eq_true rfl) ⟨Nat.le_of_ble_eq_true rfl, Nat.le_of_ble_eq_true rfl⟩ (dq dt_X9_child 48 rfl) (fun H locs hw => ?_)
      cases hF
      exact kRetI hQ C hw (dq dt_X9_child 49 rfl)
    replace hF := if_f c22 hF
    refine lv_tableOut (lo := 0) (hi := 6) (tgt := 115) hx hb (dq dt_X9_child 7 rfl) (tb_out (n := 7) (by decide) (fun i hi => by match i, hi with | 0, _ => exact c4 | 1, _ => exact c7 | 2, _ => exact c10 | 3, _ => exact c13 | 4, _ => exact c16 | 5, _ => exact c19 | 6, _ => exact c22 | i + 7, hi => exact absurd hi (by omega))) (by decide) ?_
    refine lv_bipush (v := (-3 : Int32)) hx hb (dq dt_X9_child 50 rfl) (by decide) ?_
    cases hF
    exact kRetI hQ C hw (dq dt_X9_child 51 rfl)
  · replace hF := if_t c3 hF
    refine lv_bipush (v := (-2 : Int32)) hx hb (dq dt_X9_child 4 rfl) (by decide) ?_
    cases hF
    exact kRetI hQ C hw (dq dt_X9_child 5 rfl)
def F_X9_as (m_seepMany : Int32) (m_many : Int32) (m_row : Nat → Int32) (m_seeps : Nat → Int32) (m_kinds : Nat → Int32) (m_ears : Nat → Int32) (p1 : Int32) (p2 : Int32) : Option (Int32) :=
  zc1 (F_X9_isChild m_many p1) (fun v1 => if v1 = 0 then (some (-2 : Int32)) else (zc1 (F_X9_in (p2.toInt64) (0 : Int64) (4 : Int64)) (fun v4 => if v4 = 0 then (some (-3 : Int32)) else (rd 5 m_kinds p1 (fun v7 => zj0 (if (1 : Int32) = 0 then (some (-4 : Int32)) else (zc1 (F_X9_hears m_seepMany m_row m_seeps m_kinds m_ears (0 : Int32) p1) (fun v11 => some v11))) (fun K9 => if p2 = 0 then (K9) else (zj0 (zj0 (zj0 (zj0 (if (0 : Int32) = 0 then (some (-4 : Int32)) else (zc1 (F_X9_hears m_seepMany m_row m_seeps m_kinds m_ears (0 : Int32) p1) (fun v19 => some v19))) (fun K17 => if p2 = (4 : Int32) then (if v7 = (3 : Int32) then (K9) else (K17)) else (K17))) (fun K16 => if p2 = (3 : Int32) then (if v7 = (2 : Int32) then (K9) else (K16)) else (K16))) (fun K15 => if p2 = (2 : Int32) then (if v7 = (1 : Int32) then (K9) else (K15)) else (K15))) (fun K14 => if p2 = (1 : Int32) then (if v7 < (2 : Int32) then (K9) else (K14)) else (K14)))))))))
abbrev rm_X9_as : Room := { frames := 3, cells := 0, slots := 0, locals := 68 }
theorem kd_X9_as : yX9_as.cls = RX9 ∧ yX9_as.cls ≠ "java/lang/invoke/MethodHandle" ∧ yX9_as.cls ≠ "java/lang/invoke/VarHandle" ∧ (parseMethodDescriptor yX9_as.desc).map (fun d => d.parameters.length) = some 2 := by decide +kernel
set_option maxRecDepth 100000 in
set_option maxHeartbeats 4000000 in
theorem A_X9_as (l : Launch) (D : va_G) (cB cI cJ cZ : ClassId) (ad : (Nat → Nat) × (Nat → Nat)) (a_m a_m_row a_m_isKept a_m_text a_m_read a_m_tides a_m_seeps a_m_kinds a_m_paces a_m_ears a_m_hearers a_m_chosen a_m_dues a_m_sights : Nat) (m_length : Int32) (m_readMany : Int32) (m_yards : Int32) (m_seepMany : Int32) (m_many : Int32) (m_at : Int32) (m_place : Int32) (m_end : Int32) (m_readYards : Int32) (m_readSeeps : Int32) (m_readChildren : Int32) (m_chosenMany : Int32) (m_seenMany : Int32) (m_row : Nat → Int32) (m_seeps : Nat → Int32) (m_kinds : Nat → Int32) (m_ears : Nat → Int32) (p1 : Int32) (p2 : Int32) (r : Int32) (hF : F_X9_as m_seepMany m_many m_row m_seeps m_kinds m_ears p1 p2 = some r) : kM l yX9_as (Cond.code yX9_as cX9_as 5 (some .int) :: W0) rm_X9_as D (kT cB cI cJ cZ) ad [.ref a_m, .int p1, .int p2] [(a_m, .inr (9, [.ref a_m_row, .ref a_m_isKept, .ref a_m_text, .int m_length, .ref a_m_read, .int m_readMany, .int m_yards, .ref a_m_tides, .ref a_m_seeps, .int m_seepMany, .ref a_m_kinds, .ref a_m_paces, .ref a_m_ears, .int m_many, .int m_at, .int m_place, .int m_end, .int m_readYards, .int m_readSeeps, .int m_readChildren, .ref a_m_hearers, .ref a_m_chosen, .int m_chosenMany, .ref a_m_dues, .ref a_m_sights, .int m_seenMany])), (a_m_row, .inl (cI, 95, .inl m_row)), (a_m_seeps, .inl (cI, 18, .inl m_seeps)), (a_m_kinds, .inl (cI, 5, .inl m_kinds)), (a_m_ears, .inl (cI, 5, .inl m_ears))] (some (.int r)) [(a_m, .inr (9, [.ref a_m_row, .ref a_m_isKept, .ref a_m_text, .int m_length, .ref a_m_read, .int m_readMany, .int m_yards, .ref a_m_tides, .ref a_m_seeps, .int m_seepMany, .ref a_m_kinds, .ref a_m_paces, .ref a_m_ears, .int m_many, .int m_at, .int m_place, .int m_end, .int m_readYards, .int m_readSeeps, .int m_readChildren, .ref a_m_hearers, .ref a_m_chosen, .int m_chosenMany, .ref a_m_dues, .ref a_m_sights, .int m_seenMany])), (a_m_row, .inl (cI, 95, .inl m_row)), (a_m_seeps, .inl (cI, 18, .inl m_seeps)), (a_m_kinds, .inl (cI, 5, .inl m_kinds)), (a_m_ears, .inl (cI, 5, .inl m_ears))] := by
  unfold F_X9_as at hF
  refine kStart (lv := [(0, .ref a_m), (1, .int p1), (2, .int p2)]) (own := "DikeWatchModel") (plainFor_of_name (by decide)) rfl (Nat.le_of_ble_eq_true rfl) rfl ?_
  intro p e s m args below meth c A Q ls hQ C hx hb hw hl
  refine lv_aload_n hx hb (dq dt_X9_as 0 rfl) rfl (lv_at hl 0 rfl) ?_
  refine lv_iload_n hx hb (dq dt_X9_as 1 rfl) rfl (lv_at hl 1 rfl) ?_
  obtain ⟨v1, hr2, hF⟩ := zc1_ hF
  refine kCallVR C hw (A_X9_isChild l D cB cI cJ cZ ad a_m a_m_row a_m_isKept a_m_text a_m_read a_m_tides a_m_seeps a_m_kinds a_m_paces a_m_ears a_m_hearers a_m_chosen a_m_dues a_m_sights m_length m_readMany m_yards m_seepMany m_many m_at m_place m_end m_readYards m_readSeeps m_readChildren m_chosenMany m_seenMany p1 v1 hr2) (cwV 1 C.2.2.2.2.2.2.1 (w0_V0 q5_33 q5_30 q5_32 (ws0 33 rfl) q1_10) rfl rfl rfl kd_X9_isChild ⟨Nat.le_of_ble_eq_true rfl, Nat.le_of_ble_eq_true rfl⟩) [0] rfl rfl 0 9 rfl rfl hl.1 rfl rfl rfl (Nat.le_of_ble_eq_true rfl) ⟨Nat.le_of_ble_eq_true rfl, Nat.le_of_ble_eq_true rfl⟩ (dq dt_X9_as 2 rfl) (fun H locs hw => ?_)
  refine lv_if_ne (tgt := 11) hx hb (dq dt_X9_as 3 rfl) (by decide) (fun c3 => ?_) (fun c3 => ?_)
  · replace hF := if_f c3 hF
    refine lv_iload_n hx hb (dq dt_X9_as 6 rfl) rfl (lv_at hl 2 rfl) ?_
    refine lv_i2l (v := (p2.toInt64)) hx hb (dq dt_X9_as 7 rfl) rfl ?_
    refine lv_lconst (v := (0 : Int64)) hx hb (dq dt_X9_as 8 rfl) (by decide) ?_
    refine lv_ldc2 (v := (4 : Int64)) hx hb C.2.2.2.2.2.1 (C.2.2.2.2.2.2.1 _ q5_60) (dq dt_X9_as 9 rfl) ?_
    obtain ⟨v4, hr5, hF⟩ := zc1_ hF
    refine kCallSP C hw (A_X9_in l D cB cI cJ cZ ad (p2.toInt64) (0 : Int64) (4 : Int64) v4 hr5) (va_cwS 3 C.2.2.2.2.2.2.1 (w0_S0 q4_182 q4_180 q4_181 q1_10) rfl rfl rfl ke_X9_in ⟨Nat.le_of_ble_eq_true rfl, Nat.le_of_ble_eq_true rfl⟩) hl.1 rfl rfl rfl (Nat.le_of_ble_eq_true rfl) ⟨Nat.le_of_ble_eq_true rfl, Nat.le_of_ble_eq_true rfl⟩ (dq dt_X9_as 10 rfl) (fun H locs hw => ?_)
    refine lv_if_ne (tgt := 26) hx hb (dq dt_X9_as 11 rfl) (by decide) (fun c6 => ?_) (fun c6 => ?_)
    · replace hF := if_f c6 hF
      refine lv_aload_n hx hb (dq dt_X9_as 14 rfl) rfl (lv_at hl 0 rfl) ?_
      refine kGet (ci := 9) C in_X9 hw 0 rfl rfl 10 (by decide) (C.2.2.2.2.2.2.1 _ q4_105) rfl rfl (dq dt_X9_as 15 rfl) ?_
      refine lv_iload_n hx hb (dq dt_X9_as 16 rfl) rfl (lv_at hl 1 rfl) ?_
      obtain ⟨v7, ev7, hi8, hF⟩ := rd_ hF
      refine kIald C hw 3 1 rfl rfl hi8 ev7 (dq dt_X9_as 17 rfl) ?_
      refine lv_istore_n (lv' := [(3, .int v7), (0, .ref a_m), (1, .int p1), (2, .int p2)]) hx hb (dq dt_X9_as 18 rfl) rfl hl (by decide) rfl (fun ls hl => ?_)
      refine lv_iload_n hx hb (dq dt_X9_as 19 rfl) rfl (lv_at hl 3 rfl) ?_
      obtain ⟨K9, hK9, hF⟩ := zj0_ hF
      have J9 : K9 = some r → ∀ (H : Heap) (locs : List Loc) (ls : Array Slot), kW D A s.heap [(a_m, .inr (9, [.ref a_m_row, .ref a_m_isKept, .ref a_m_text, .int m_length, .ref a_m_read, .int m_readMany, .int m_yards, .ref a_m_tides, .ref a_m_seeps, .int m_seepMany, .ref a_m_kinds, .ref a_m_paces, .ref a_m_ears, .int m_many, .int m_at, .int m_place, .int m_end, .int m_readYards, .int m_readSeeps, .int m_readChildren, .ref a_m_hearers, .ref a_m_chosen, .int m_chosenMany, .ref a_m_dues, .ref a_m_sights, .int m_seenMany])), (a_m_row, .inl (cI, 95, .inl m_row)), (a_m_seeps, .inl (cI, 18, .inl m_seeps)), (a_m_kinds, .inl (cI, 5, .inl m_kinds)), (a_m_ears, .inl (cI, 5, .inl m_ears))] H locs → lv_has ls 5 [(0, .ref a_m), (1, .int p1)] → W p l e rm_X9_as s m args below meth c H locs 0 0 Q (F0 m 77 ls []) := by
        intro hF H locs ls hw hl
        replace hF := hK9 hF
        refine lv_iconst (v := (1 : Int32)) hx hb (dq dt_X9_as 45 rfl) (by decide) ?_
        refine lv_goto (tgt := 82) hx hb (dq dt_X9_as 46 rfl) (by decide) ?_
        refine lv_istore (lv' := [(4, .int (1 : Int32)), (0, .ref a_m), (1, .int p1)]) hx hb (dq dt_X9_as 48 rfl) hl (by decide) rfl (fun ls hl => ?_)
        refine lv_iload hx hb (dq dt_X9_as 49 rfl) (lv_at hl 0 rfl) ?_
        refine lv_if_eq (tgt := 98) hx hb (dq dt_X9_as 50 rfl) (by decide) (fun c10 => ?_) (fun c10 => ?_)
        · replace hF := if_t c10 hF
          refine lv_bipush (v := (-4 : Int32)) hx hb (dq dt_X9_as 56 rfl) (by decide) ?_
          cases hF
          exact kRetI hQ C hw (dq dt_X9_as 57 rfl)
        · replace hF := if_f c10 hF
          refine lv_aload_n hx hb (dq dt_X9_as 51 rfl) rfl (lv_at hl 1 rfl) ?_
          refine lv_iconst (v := (0 : Int32)) hx hb (dq dt_X9_as 52 rfl) (by decide) ?_
          refine lv_iload_n hx hb (dq dt_X9_as 53 rfl) rfl (lv_at hl 2 rfl) ?_
          obtain ⟨v11, hr12, hF⟩ := zc1_ hF
          refine kCallVR C hw (A_X9_hears l D cB cI cJ cZ ad a_m a_m_row a_m_isKept a_m_text a_m_read a_m_tides a_m_seeps a_m_kinds a_m_paces a_m_ears a_m_hearers a_m_chosen a_m_dues a_m_sights m_length m_readMany m_yards m_seepMany m_many m_at m_place m_end m_readYards m_readSeeps m_readChildren m_chosenMany m_seenMany m_row m_seeps m_kinds m_ears (0 : Int32) p1 v11 hr12) (cwV 2 C.2.2.2.2.2.2.1 (w0_V0 q5_45 q5_42 q5_44 (ws0 36 rfl) q1_10) rfl rfl rfl kd_X9_hears ⟨Nat.le_of_ble_eq_true rfl, Nat.le_of_ble_eq_true rfl⟩) [0, 1, 2, 3, 4] rfl rfl 0 9 rfl rfl hl.1 rfl rfl rfl (Nat.le_of_ble_eq_true rfl) ⟨Nat.le_of_ble_eq_true rfl, Nat.le_of_ble_eq_true rfl⟩ (dq dt_X9_as 54 rfl) (fun H locs hw => ?_)
          refine lv_goto (tgt := 100) hx hb (dq dt_X9_as 55 rfl) (by decide) ?_
          cases hF
          exact kRetI hQ C hw (dq dt_X9_as 57 rfl)
      refine lv_if_eq (tgt := 77) hx hb (dq dt_X9_as 20 rfl) (by decide) (fun c13 => ?_) (fun c13 => ?_)
      · replace hF := if_t c13 hF
        exact J9 hF _ _ _ hw (lv_sub hl [1, 2] rfl)
      · replace hF := if_f c13 hF
        refine lv_iload_n hx hb (dq dt_X9_as 21 rfl) rfl (lv_at hl 3 rfl) ?_
        refine lv_iconst (v := (1 : Int32)) hx hb (dq dt_X9_as 22 rfl) (by decide) ?_
        obtain ⟨K14, hK14, hF⟩ := zj0_ hF
        have J14 : K14 = some r → ∀ (H : Heap) (locs : List Loc) (ls : Array Slot), kW D A s.heap [(a_m, .inr (9, [.ref a_m_row, .ref a_m_isKept, .ref a_m_text, .int m_length, .ref a_m_read, .int m_readMany, .int m_yards, .ref a_m_tides, .ref a_m_seeps, .int m_seepMany, .ref a_m_kinds, .ref a_m_paces, .ref a_m_ears, .int m_many, .int m_at, .int m_place, .int m_end, .int m_readYards, .int m_readSeeps, .int m_readChildren, .ref a_m_hearers, .ref a_m_chosen, .int m_chosenMany, .ref a_m_dues, .ref a_m_sights, .int m_seenMany])), (a_m_row, .inl (cI, 95, .inl m_row)), (a_m_seeps, .inl (cI, 18, .inl m_seeps)), (a_m_kinds, .inl (cI, 5, .inl m_kinds)), (a_m_ears, .inl (cI, 5, .inl m_ears))] H locs → lv_has ls 5 [(0, .ref a_m), (1, .int p1), (2, .int p2), (3, .int v7)] → W p l e rm_X9_as s m args below meth c H locs 0 0 Q (F0 m 47 ls []) := by
          intro hF H locs ls hw hl
          replace hF := hK14 hF
          refine lv_iload_n hx hb (dq dt_X9_as 27 rfl) rfl (lv_at hl 2 rfl) ?_
          refine lv_iconst (v := (2 : Int32)) hx hb (dq dt_X9_as 28 rfl) (by decide) ?_
          obtain ⟨K15, hK15, hF⟩ := zj0_ hF
          have J15 : K15 = some r → ∀ (H : Heap) (locs : List Loc) (ls : Array Slot), kW D A s.heap [(a_m, .inr (9, [.ref a_m_row, .ref a_m_isKept, .ref a_m_text, .int m_length, .ref a_m_read, .int m_readMany, .int m_yards, .ref a_m_tides, .ref a_m_seeps, .int m_seepMany, .ref a_m_kinds, .ref a_m_paces, .ref a_m_ears, .int m_many, .int m_at, .int m_place, .int m_end, .int m_readYards, .int m_readSeeps, .int m_readChildren, .ref a_m_hearers, .ref a_m_chosen, .int m_chosenMany, .ref a_m_dues, .ref a_m_sights, .int m_seenMany])), (a_m_row, .inl (cI, 95, .inl m_row)), (a_m_seeps, .inl (cI, 18, .inl m_seeps)), (a_m_kinds, .inl (cI, 5, .inl m_kinds)), (a_m_ears, .inl (cI, 5, .inl m_ears))] H locs → lv_has ls 5 [(0, .ref a_m), (1, .int p1), (2, .int p2), (3, .int v7)] → W p l e rm_X9_as s m args below meth c H locs 0 0 Q (F0 m 57 ls []) := by
            intro hF H locs ls hw hl
            replace hF := hK15 hF
            refine lv_iload_n hx hb (dq dt_X9_as 33 rfl) rfl (lv_at hl 2 rfl) ?_
            refine lv_iconst (v := (3 : Int32)) hx hb (dq dt_X9_as 34 rfl) (by decide) ?_
            obtain ⟨K16, hK16, hF⟩ := zj0_ hF
            have J16 : K16 = some r → ∀ (H : Heap) (locs : List Loc) (ls : Array Slot), kW D A s.heap [(a_m, .inr (9, [.ref a_m_row, .ref a_m_isKept, .ref a_m_text, .int m_length, .ref a_m_read, .int m_readMany, .int m_yards, .ref a_m_tides, .ref a_m_seeps, .int m_seepMany, .ref a_m_kinds, .ref a_m_paces, .ref a_m_ears, .int m_many, .int m_at, .int m_place, .int m_end, .int m_readYards, .int m_readSeeps, .int m_readChildren, .ref a_m_hearers, .ref a_m_chosen, .int m_chosenMany, .ref a_m_dues, .ref a_m_sights, .int m_seenMany])), (a_m_row, .inl (cI, 95, .inl m_row)), (a_m_seeps, .inl (cI, 18, .inl m_seeps)), (a_m_kinds, .inl (cI, 5, .inl m_kinds)), (a_m_ears, .inl (cI, 5, .inl m_ears))] H locs → lv_has ls 5 [(0, .ref a_m), (1, .int p1), (2, .int p2), (3, .int v7)] → W p l e rm_X9_as s m args below meth c H locs 0 0 Q (F0 m 67 ls []) := by
              intro hF H locs ls hw hl
              replace hF := hK16 hF
              refine lv_iload_n hx hb (dq dt_X9_as 39 rfl) rfl (lv_at hl 2 rfl) ?_
              refine lv_iconst (v := (4 : Int32)) hx hb (dq dt_X9_as 40 rfl) (by decide) ?_
              obtain ⟨K17, hK17, hF⟩ := zj0_ hF
              have J17 : K17 = some r → ∀ (H : Heap) (locs : List Loc) (ls : Array Slot), kW D A s.heap [(a_m, .inr (9, [.ref a_m_row, .ref a_m_isKept, .ref a_m_text, .int m_length, .ref a_m_read, .int m_readMany, .int m_yards, .ref a_m_tides, .ref a_m_seeps, .int m_seepMany, .ref a_m_kinds, .ref a_m_paces, .ref a_m_ears, .int m_many, .int m_at, .int m_place, .int m_end, .int m_readYards, .int m_readSeeps, .int m_readChildren, .ref a_m_hearers, .ref a_m_chosen, .int m_chosenMany, .ref a_m_dues, .ref a_m_sights, .int m_seenMany])), (a_m_row, .inl (cI, 95, .inl m_row)), (a_m_seeps, .inl (cI, 18, .inl m_seeps)), (a_m_kinds, .inl (cI, 5, .inl m_kinds)), (a_m_ears, .inl (cI, 5, .inl m_ears))] H locs → lv_has ls 5 [(0, .ref a_m), (1, .int p1)] → W p l e rm_X9_as s m args below meth c H locs 0 0 Q (F0 m 81 ls []) := by
                intro hF H locs ls hw hl
                replace hF := hK17 hF
                refine lv_iconst (v := (0 : Int32)) hx hb (dq dt_X9_as 47 rfl) (by decide) ?_
                refine lv_istore (lv' := [(4, .int (0 : Int32)), (0, .ref a_m), (1, .int p1)]) hx hb (dq dt_X9_as 48 rfl) hl (by decide) rfl (fun ls hl => ?_)
                refine lv_iload hx hb (dq dt_X9_as 49 rfl) (lv_at hl 0 rfl) ?_
                refine lv_if_eq (tgt := 98) hx hb (dq dt_X9_as 50 rfl) (by decide) (fun c18 => ?_) (fun c18 => ?_)
                · replace hF := if_t c18 hF
                  refine lv_bipush (v := (-4 : Int32)) hx hb (dq dt_X9_as 56 rfl) (by decide) ?_
                  cases hF
                  exact kRetI hQ C hw (dq dt_X9_as 57 rfl)
                · replace hF := if_f c18 hF
                  refine lv_aload_n hx hb (dq dt_X9_as 51 rfl) rfl (lv_at hl 1 rfl) ?_
                  refine lv_iconst (v := (0 : Int32)) hx hb (dq dt_X9_as 52 rfl) (by decide) ?_
                  refine lv_iload_n hx hb (dq dt_X9_as 53 rfl) rfl (lv_at hl 2 rfl) ?_
                  obtain ⟨v19, hr20, hF⟩ := zc1_ hF
                  refine kCallVR C hw (A_X9_hears l D cB cI cJ cZ ad a_m a_m_row a_m_isKept a_m_text a_m_read a_m_tides a_m_seeps a_m_kinds a_m_paces a_m_ears a_m_hearers a_m_chosen a_m_dues a_m_sights m_length m_readMany m_yards m_seepMany m_many m_at m_place m_end m_readYards m_readSeeps m_readChildren m_chosenMany m_seenMany m_row m_seeps m_kinds m_ears (0 : Int32) p1 v19 hr20) (cwV 2 C.2.2.2.2.2.2.1 (w0_V0 q5_45 q5_42 q5_44 (ws0 36 rfl) q1_10) rfl rfl rfl kd_X9_hears ⟨Nat.le_of_ble_eq_true rfl, Nat.le_of_ble_eq_true rfl⟩) [0, 1, 2, 3, 4] rfl rfl 0 9 rfl rfl hl.1 rfl rfl rfl (Nat.le_of_ble_eq_true rfl) ⟨Nat.le_of_ble_eq_true rfl, Nat.le_of_ble_eq_true rfl⟩ (dq dt_X9_as 54 rfl) (fun H locs hw => ?_)
                  refine lv_goto (tgt := 100) hx hb (dq dt_X9_as 55 rfl) (by decide) ?_
                  cases hF
                  exact kRetI hQ C hw (dq dt_X9_as 57 rfl)
              refine lv_icmp_ne (tgt := 81) hx hb (dq dt_X9_as 41 rfl) (by decide) (fun c21 => ?_) (fun c21 => ?_)
              · replace hF := if_f c21 hF
                exact J17 hF _ _ _ hw (lv_sub hl [0, 1] rfl)
              · replace hF := if_t c21 hF
                refine lv_iload_n hx hb (dq dt_X9_as 42 rfl) rfl (lv_at hl 3 rfl) ?_
                refine lv_iconst (v := (3 : Int32)) hx hb (dq dt_X9_as 43 rfl) (by decide) ?_
                refine lv_icmp_ne (tgt := 81) hx hb (dq dt_X9_as 44 rfl) (by decide) (fun c22 => ?_) (fun c22 => ?_)
                · replace hF := if_f c22 hF
                  exact J17 hF _ _ _ hw (lv_sub hl [0, 1] rfl)
                · replace hF := if_t c22 hF
                  exact J9 hF _ _ _ hw (lv_sub hl [0, 1] rfl)
            refine lv_icmp_ne (tgt := 67) hx hb (dq dt_X9_as 35 rfl) (by decide) (fun c23 => ?_) (fun c23 => ?_)
            · replace hF := if_f c23 hF
              exact J16 hF _ _ _ hw (lv_sub hl [0, 1, 2, 3] rfl)
            · replace hF := if_t c23 hF
              refine lv_iload_n hx hb (dq dt_X9_as 36 rfl) rfl (lv_at hl 3 rfl) ?_
              refine lv_iconst (v := (2 : Int32)) hx hb (dq dt_X9_as 37 rfl) (by decide) ?_
              refine lv_icmp_eq (tgt := 77) hx hb (dq dt_X9_as 38 rfl) (by decide) (fun c24 => ?_) (fun c24 => ?_)
              · replace hF := if_t c24 hF
                exact J9 hF _ _ _ hw (lv_sub hl [0, 1] rfl)
              · replace hF := if_f c24 hF
                exact J16 hF _ _ _ hw (lv_sub hl [0, 1, 2, 3] rfl)
          refine lv_icmp_ne (tgt := 57) hx hb (dq dt_X9_as 29 rfl) (by decide) (fun c25 => ?_) (fun c25 => ?_)
          · replace hF := if_f c25 hF
            exact J15 hF _ _ _ hw (lv_sub hl [0, 1, 2, 3] rfl)
          · replace hF := if_t c25 hF
            refine lv_iload_n hx hb (dq dt_X9_as 30 rfl) rfl (lv_at hl 3 rfl) ?_
            refine lv_iconst (v := (1 : Int32)) hx hb (dq dt_X9_as 31 rfl) (by decide) ?_
            refine lv_icmp_eq (tgt := 77) hx hb (dq dt_X9_as 32 rfl) (by decide) (fun c26 => ?_) (fun c26 => ?_)
            · replace hF := if_t c26 hF
              exact J9 hF _ _ _ hw (lv_sub hl [0, 1] rfl)
            · replace hF := if_f c26 hF
              exact J15 hF _ _ _ hw (lv_sub hl [0, 1, 2, 3] rfl)
        refine lv_icmp_ne (tgt := 47) hx hb (dq dt_X9_as 23 rfl) (by decide) (fun c27 => ?_) (fun c27 => ?_)
        · replace hF := if_f c27 hF
          exact J14 hF _ _ _ hw (lv_sub hl [1, 2, 3, 0] rfl)
        · replace hF := if_t c27 hF
          refine lv_iload_n hx hb (dq dt_X9_as 24 rfl) rfl (lv_at hl 0 rfl) ?_
          refine lv_iconst (v := (2 : Int32)) hx hb (dq dt_X9_as 25 rfl) (by decide) ?_
          refine lv_icmp_lt (tgt := 77) hx hb (dq dt_X9_as 26 rfl) (by decide) (fun c28 => ?_) (fun c28 => ?_)
          · replace hF := if_t c28 hF
            exact J9 hF _ _ _ hw (lv_sub hl [1, 2] rfl)
          · replace hF := if_f c28 hF
            exact J14 hF _ _ _ hw (lv_sub hl [1, 2, 3, 0] rfl)
    · replace hF := if_t c6 hF
      refine lv_bipush (v := (-3 : Int32)) hx hb (dq dt_X9_as 12 rfl) (by decide) ?_
      cases hF
      exact kRetI hQ C hw (dq dt_X9_as 13 rfl)
  · replace hF := if_t c3 hF
    refine lv_bipush (v := (-2 : Int32)) hx hb (dq dt_X9_as 4 rfl) (by decide) ?_
    cases hF
    exact kRetI hQ C hw (dq dt_X9_as 5 rfl)
