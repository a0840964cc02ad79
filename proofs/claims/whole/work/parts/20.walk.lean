def F_X9_walk (m_yards : Int32) (m_row : Nat → Int32) (m_paces : Nat → Int32) (p1 : Int32) (p2 : Int32) : Option ((Nat → Int32)) :=
  zl2 (fun x1 h2 ag3 => rd 5 m_paces p2 (fun v4 => if v4 ≤ x1 then (some h2) else (rd 95 h2 (p1 + (12 : Int32)) (fun v7 => zc1 (F_X9_has v7 p2) (fun v9 => zj1 (fun y11 => bd (p1 + (12 : Int32)) (fun v13 => rd 95 h2 v13 (fun v14 => rd 95 h2 ((p1 + (7 : Int32)) + p2) (fun v16 => zj1 (fun y18 => bd (v14 ^^^ y18) (fun v20 => wr 95 v13 (upd h2 (v13).toNatClampNeg v20) (fun g21 => bd ((p1 + (7 : Int32)) + p2) (fun v23 => rd 95 g21 v23 (fun v24 => rd 95 g21 (p1 + (12 : Int32)) (fun v26 => zc1 (F_X9_has v26 p2) (fun v28 => zj1 (fun y30 => bd (v24 + y30) (fun v32 => wr 95 v23 (upd g21 (v23).toNatClampNeg v32) (fun g33 => bd (x1 + (1 : Int32)) (fun v35 => ag3 v35 g33)))) (fun K31 => if v28 = 0 then (K31 (1 : Int32)) else (K31 (-1 : Int32)))))))))) (fun K19 => if v16 = y11 then (K19 ((1 : Int32) <<< (p2 &&& 31))) else (K19 (0 : Int32))))))) (fun K12 => if v9 = 0 then (K12 (m_yards - (1 : Int32))) else (K12 (0 : Int32)))))))) FU (0 : Int32) m_row
abbrev rm_X9_walk : Room := { frames := 1, cells := 0, slots := 0, locals := 21 }
theorem kd_X9_walk : yX9_walk.cls = RX9 ∧ yX9_walk.cls ≠ "java/lang/invoke/MethodHandle" ∧ yX9_walk.cls ≠ "java/lang/invoke/VarHandle" ∧ (parseMethodDescriptor yX9_walk.desc).map (fun d => d.parameters.length) = some 2 := by decide +kernel
set_option maxRecDepth 100000 in
set_option maxHeartbeats 4000000 in
theorem A_X9_walk (l : Launch) (D : va_G) (cB cI cJ cZ : ClassId) (ad : (Nat → Nat) × (Nat → Nat)) (a_m a_m_row a_m_isKept a_m_text a_m_read a_m_tides a_m_seeps a_m_kinds a_m_paces a_m_ears a_m_hearers a_m_chosen a_m_dues a_m_sights : Nat) (m_length : Int32) (m_readMany : Int32) (m_yards : Int32) (m_seepMany : Int32) (m_many : Int32) (m_at : Int32) (m_place : Int32) (m_end : Int32) (m_readYards : Int32) (m_readSeeps : Int32) (m_readChildren : Int32) (m_chosenMany : Int32) (m_seenMany : Int32) (m_row : Nat → Int32) (m_paces : Nat → Int32) (p1 : Int32) (p2 : Int32) (m_row' : Nat → Int32) (hF : F_X9_walk m_yards m_row m_paces p1 p2 = some m_row') : kM l yX9_walk (Cond.code yX9_walk cX9_walk 5 (none) :: W0) rm_X9_walk D (kT cB cI cJ cZ) ad [.ref a_m, .int p1, .int p2] [(a_m, .inr (9, [.ref a_m_row, .ref a_m_isKept, .ref a_m_text, .int m_length, .ref a_m_read, .int m_readMany, .int m_yards, .ref a_m_tides, .ref a_m_seeps, .int m_seepMany, .ref a_m_kinds, .ref a_m_paces, .ref a_m_ears, .int m_many, .int m_at, .int m_place, .int m_end, .int m_readYards, .int m_readSeeps, .int m_readChildren, .ref a_m_hearers, .ref a_m_chosen, .int m_chosenMany, .ref a_m_dues, .ref a_m_sights, .int m_seenMany])), (a_m_row, .inl (cI, 95, .inl m_row)), (a_m_paces, .inl (cI, 5, .inl m_paces))] none [(a_m, .inr (9, [.ref a_m_row, .ref a_m_isKept, .ref a_m_text, .int m_length, .ref a_m_read, .int m_readMany, .int m_yards, .ref a_m_tides, .ref a_m_seeps, .int m_seepMany, .ref a_m_kinds, .ref a_m_paces, .ref a_m_ears, .int m_many, .int m_at, .int m_place, .int m_end, .int m_readYards, .int m_readSeeps, .int m_readChildren, .ref a_m_hearers, .ref a_m_chosen, .int m_chosenMany, .ref a_m_dues, .ref a_m_sights, .int m_seenMany])), (a_m_row, .inl (cI, 95, .inl (m_row'))), (a_m_paces, .inl (cI, 5, .inl m_paces))] := by
  unfold F_X9_walk at hF
  refine kStart (lv := [(0, .ref a_m), (1, .int p1), (2, .int p2)]) (own := "DikeWatchModel") (plainFor_of_name (by decide)) rfl (Nat.le_of_ble_eq_true rfl) rfl ?_
  intro p e s m args below meth c A Q ls hQ C hx hb hw hl
  refine lv_iconst (v := (0 : Int32)) hx hb (dq dt_X9_walk 0 rfl) (by decide) ?_
  refine lv_istore_n (lv' := [(3, .int (0 : Int32)), (0, .ref a_m), (1, .int p1), (2, .int p2)]) hx hb (dq dt_X9_walk 1 rfl) rfl hl (by decide) rfl (fun ls hl => ?_)
  obtain ⟨K3, hK03, hK3, hF⟩ := zl2_ hF
  have L3 : ∀ (n : Nat) (x1 : Int32) (h2 : Nat → Int32), K3 n x1 h2 = some m_row' → ∀ (H : Heap) (locs : List Loc) (ls : Array Slot), kW D A s.heap [(a_m, .inr (9, [.ref a_m_row, .ref a_m_isKept, .ref a_m_text, .int m_length, .ref a_m_read, .int m_readMany, .int m_yards, .ref a_m_tides, .ref a_m_seeps, .int m_seepMany, .ref a_m_kinds, .ref a_m_paces, .ref a_m_ears, .int m_many, .int m_at, .int m_place, .int m_end, .int m_readYards, .int m_readSeeps, .int m_readChildren, .ref a_m_hearers, .ref a_m_chosen, .int m_chosenMany, .ref a_m_dues, .ref a_m_sights, .int m_seenMany])), (a_m_row, .inl (cI, 95, .inl h2)), (a_m_paces, .inl (cI, 5, .inl m_paces))] H locs → lv_has ls 5 [(0, .ref a_m), (1, .int p1), (2, .int p2), (3, .int x1)] → W p l e rm_X9_walk s m args below meth c H locs 0 0 Q (F0 m 2 ls []) := by
    intro n
    induction n with
    | zero => intro x1 h2 hF; exact (lp_no (hK03 x1 h2) hF).elim
    | succ n ih3 =>
      intro x1 h2 hF H locs ls hw hl
      replace hF := hK3 n x1 h2 hF
      refine lv_iload_n hx hb (dq dt_X9_walk 2 rfl) rfl (lv_at hl 3 rfl) ?_
      refine lv_aload_n hx hb (dq dt_X9_walk 3 rfl) rfl (lv_at hl 0 rfl) ?_
      refine kGet (ci := 9) C in_X9 hw 0 rfl rfl 11 (by decide) (C.2.2.2.2.2.2.1 _ q4_106) rfl rfl (dq dt_X9_walk 4 rfl) ?_
      refine lv_iload_n hx hb (dq dt_X9_walk 5 rfl) rfl (lv_at hl 2 rfl) ?_
      obtain ⟨v4, ev4, hi5, hF⟩ := rd_ hF
      refine kIald C hw 2 1 rfl rfl hi5 ev4 (dq dt_X9_walk 6 rfl) ?_
      refine lv_icmp_ge (tgt := 116) hx hb (dq dt_X9_walk 7 rfl) (by decide) (fun c6 => ?_) (fun c6 => ?_)
      · replace hF := if_t c6 hF
        cases hF
        exact kRetV hQ C hw (dq dt_X9_walk 73 rfl)
      · replace hF := if_f c6 hF
        refine lv_aload_n hx hb (dq dt_X9_walk 8 rfl) rfl (lv_at hl 0 rfl) ?_
        refine kGet (ci := 9) C in_X9 hw 0 rfl rfl 0 (by decide) (C.2.2.2.2.2.2.1 _ q4_95) rfl rfl (dq dt_X9_walk 9 rfl) ?_
        refine lv_iload_n hx hb (dq dt_X9_walk 10 rfl) rfl (lv_at hl 1 rfl) ?_
        refine lv_bipush (v := (12 : Int32)) hx hb (dq dt_X9_walk 11 rfl) (by decide) ?_
        refine lv_iadd hx hb (dq dt_X9_walk 12 rfl) ?_
        obtain ⟨v7, ev7, hi8, hF⟩ := rd_ hF
        refine kIald C hw 1 1 rfl rfl hi8 ev7 (dq dt_X9_walk 13 rfl) ?_
        refine lv_iload_n hx hb (dq dt_X9_walk 14 rfl) rfl (lv_at hl 2 rfl) ?_
        obtain ⟨v9, hr10, hF⟩ := zc1_ hF
        refine kCallSP C hw (A_X9_has l D cB cI cJ cZ ad v7 p2 v9 hr10) (va_cwS 2 C.2.2.2.2.2.2.1 (w0_S0 q5_52 q5_50 q5_51 q1_10) rfl rfl rfl ke_X9_has ⟨Nat.le_of_ble_eq_true rfl, Nat.le_of_ble_eq_true rfl⟩) hl.1 rfl rfl rfl (Nat.le_of_ble_eq_true rfl) ⟨Nat.le_of_ble_eq_true rfl, Nat.le_of_ble_eq_true rfl⟩ (dq dt_X9_walk 15 rfl) (fun H locs hw => ?_)
        obtain ⟨K12, hK12, hF⟩ := zj1_ hF
        have J12 : ∀ (y11 : Int32), K12 y11 = some m_row' → ∀ (H : Heap) (locs : List Loc) (ls : Array Slot), kW D A s.heap [(a_m, .inr (9, [.ref a_m_row, .ref a_m_isKept, .ref a_m_text, .int m_length, .ref a_m_read, .int m_readMany, .int m_yards, .ref a_m_tides, .ref a_m_seeps, .int m_seepMany, .ref a_m_kinds, .ref a_m_paces, .ref a_m_ears, .int m_many, .int m_at, .int m_place, .int m_end, .int m_readYards, .int m_readSeeps, .int m_readChildren, .ref a_m_hearers, .ref a_m_chosen, .int m_chosenMany, .ref a_m_dues, .ref a_m_sights, .int m_seenMany])), (a_m_row, .inl (cI, 95, .inl h2)), (a_m_paces, .inl (cI, 5, .inl m_paces))] H locs → lv_has ls 5 [(0, .ref a_m), (1, .int p1), (2, .int p2), (3, .int x1)] → W p l e rm_X9_walk s m args below meth c H locs 0 0 Q (F0 m 38 ls [.int y11]) := by
          intro y11 hF H locs ls hw hl
          replace hF := hK12 y11 hF
          refine lv_istore (lv' := [(4, .int y11), (0, .ref a_m), (1, .int p1), (2, .int p2), (3, .int x1)]) hx hb (dq dt_X9_walk 23 rfl) hl (by decide) rfl (fun ls hl => ?_)
          refine lv_aload_n hx hb (dq dt_X9_walk 24 rfl) rfl (lv_at hl 1 rfl) ?_
          refine kGet (ci := 9) C in_X9 hw 0 rfl rfl 0 (by decide) (C.2.2.2.2.2.2.1 _ q4_95) rfl rfl (dq dt_X9_walk 25 rfl) ?_
          refine lv_iload_n hx hb (dq dt_X9_walk 26 rfl) rfl (lv_at hl 2 rfl) ?_
          refine lv_bipush (v := (12 : Int32)) hx hb (dq dt_X9_walk 27 rfl) (by decide) ?_
          refine lv_iadd hx hb (dq dt_X9_walk 28 rfl) ?_
          obtain ⟨v13, ev13, hF⟩ := bd_ hF
          refine kNmI ev13 ?_
          refine lv_dup2_11 hx hb (dq dt_X9_walk 29 rfl) rfl rfl ?_
          obtain ⟨v14, ev14, hi15, hF⟩ := rd_ hF
          refine kIald C hw 1 1 rfl rfl hi15 ev14 (dq dt_X9_walk 30 rfl) ?_
          refine lv_aload_n hx hb (dq dt_X9_walk 31 rfl) rfl (lv_at hl 1 rfl) ?_
          refine kGet (ci := 9) C in_X9 hw 0 rfl rfl 0 (by decide) (C.2.2.2.2.2.2.1 _ q4_95) rfl rfl (dq dt_X9_walk 32 rfl) ?_
          refine lv_iload_n hx hb (dq dt_X9_walk 33 rfl) rfl (lv_at hl 2 rfl) ?_
          refine lv_bipush (v := (7 : Int32)) hx hb (dq dt_X9_walk 34 rfl) (by decide) ?_
          refine lv_iadd hx hb (dq dt_X9_walk 35 rfl) ?_
          refine lv_iload_n hx hb (dq dt_X9_walk 36 rfl) rfl (lv_at hl 3 rfl) ?_
          refine lv_iadd hx hb (dq dt_X9_walk 37 rfl) ?_
          obtain ⟨v16, ev16, hi17, hF⟩ := rd_ hF
          refine kIald C hw 1 1 rfl rfl hi17 ev16 (dq dt_X9_walk 38 rfl) ?_
          refine lv_iload hx hb (dq dt_X9_walk 39 rfl) (lv_at hl 0 rfl) ?_
          obtain ⟨K19, hK19, hF⟩ := zj1_ hF
          have J19 : ∀ (y18 : Int32), K19 y18 = some m_row' → ∀ (H : Heap) (locs : List Loc) (ls : Array Slot), kW D A s.heap [(a_m, .inr (9, [.ref a_m_row, .ref a_m_isKept, .ref a_m_text, .int m_length, .ref a_m_read, .int m_readMany, .int m_yards, .ref a_m_tides, .ref a_m_seeps, .int m_seepMany, .ref a_m_kinds, .ref a_m_paces, .ref a_m_ears, .int m_many, .int m_at, .int m_place, .int m_end, .int m_readYards, .int m_readSeeps, .int m_readChildren, .ref a_m_hearers, .ref a_m_chosen, .int m_chosenMany, .ref a_m_dues, .ref a_m_sights, .int m_seenMany])), (a_m_row, .inl (cI, 95, .inl h2)), (a_m_paces, .inl (cI, 5, .inl m_paces))] H locs → lv_has ls 5 [(0, .ref a_m), (1, .int p1), (2, .int p2), (3, .int x1)] → W p l e rm_X9_walk s m args below meth c H locs 0 0 Q (F0 m 73 ls [.int y18, .int v14, .int v13, .ref a_m_row]) := by
            intro y18 hF H locs ls hw hl
            replace hF := hK19 y18 hF
            refine lv_ixor hx hb (dq dt_X9_walk 46 rfl) ?_
            obtain ⟨v20, ev20, hF⟩ := bd_ hF
            refine kNmI ev20 ?_
            obtain ⟨g21, eg21, hi22, hF⟩ := wr_ hF
            refine kIast (ws' := [(a_m, .inr (9, [.ref a_m_row, .ref a_m_isKept, .ref a_m_text, .int m_length, .ref a_m_read, .int m_readMany, .int m_yards, .ref a_m_tides, .ref a_m_seeps, .int m_seepMany, .ref a_m_kinds, .ref a_m_paces, .ref a_m_ears, .int m_many, .int m_at, .int m_place, .int m_end, .int m_readYards, .int m_readSeeps, .int m_readChildren, .ref a_m_hearers, .ref a_m_chosen, .int m_chosenMany, .ref a_m_dues, .ref a_m_sights, .int m_seenMany])), (a_m_row, .inl (cI, 95, .inl g21)), (a_m_paces, .inl (cI, 5, .inl m_paces))]) C hw 1 1 rfl rfl hi22 eg21 rfl (dq dt_X9_walk 47 rfl) (fun H locs hw => ?_)
            refine lv_aload_n hx hb (dq dt_X9_walk 48 rfl) rfl (lv_at hl 0 rfl) ?_
            refine kGet (ci := 9) C in_X9 hw 0 rfl rfl 0 (by decide) (C.2.2.2.2.2.2.1 _ q4_95) rfl rfl (dq dt_X9_walk 49 rfl) ?_
            refine lv_iload_n hx hb (dq dt_X9_walk 50 rfl) rfl (lv_at hl 1 rfl) ?_
            refine lv_bipush (v := (7 : Int32)) hx hb (dq dt_X9_walk 51 rfl) (by decide) ?_
            refine lv_iadd hx hb (dq dt_X9_walk 52 rfl) ?_
            refine lv_iload_n hx hb (dq dt_X9_walk 53 rfl) rfl (lv_at hl 2 rfl) ?_
            refine lv_iadd hx hb (dq dt_X9_walk 54 rfl) ?_
            obtain ⟨v23, ev23, hF⟩ := bd_ hF
            refine kNmI ev23 ?_
            refine lv_dup2_11 hx hb (dq dt_X9_walk 55 rfl) rfl rfl ?_
            obtain ⟨v24, ev24, hi25, hF⟩ := rd_ hF
            refine kIald C hw 1 1 rfl rfl hi25 ev24 (dq dt_X9_walk 56 rfl) ?_
            refine lv_aload_n hx hb (dq dt_X9_walk 57 rfl) rfl (lv_at hl 0 rfl) ?_
            refine kGet (ci := 9) C in_X9 hw 0 rfl rfl 0 (by decide) (C.2.2.2.2.2.2.1 _ q4_95) rfl rfl (dq dt_X9_walk 58 rfl) ?_
            refine lv_iload_n hx hb (dq dt_X9_walk 59 rfl) rfl (lv_at hl 1 rfl) ?_
            refine lv_bipush (v := (12 : Int32)) hx hb (dq dt_X9_walk 60 rfl) (by decide) ?_
            refine lv_iadd hx hb (dq dt_X9_walk 61 rfl) ?_
            obtain ⟨v26, ev26, hi27, hF⟩ := rd_ hF
            refine kIald C hw 1 1 rfl rfl hi27 ev26 (dq dt_X9_walk 62 rfl) ?_
            refine lv_iload_n hx hb (dq dt_X9_walk 63 rfl) rfl (lv_at hl 2 rfl) ?_
            obtain ⟨v28, hr29, hF⟩ := zc1_ hF
            refine kCallSP C hw (A_X9_has l D cB cI cJ cZ ad v26 p2 v28 hr29) (va_cwS 2 C.2.2.2.2.2.2.1 (w0_S0 q5_52 q5_50 q5_51 q1_10) rfl rfl rfl ke_X9_has ⟨Nat.le_of_ble_eq_true rfl, Nat.le_of_ble_eq_true rfl⟩) hl.1 rfl rfl rfl (Nat.le_of_ble_eq_true rfl) ⟨Nat.le_of_ble_eq_true rfl, Nat.le_of_ble_eq_true rfl⟩ (dq dt_X9_walk 64 rfl) (fun H locs hw => ?_)
            obtain ⟨K31, hK31, hF⟩ := zj1_ hF
            have J31 : ∀ (y30 : Int32), K31 y30 = some m_row' → ∀ (H : Heap) (locs : List Loc) (ls : Array Slot), kW D A s.heap [(a_m, .inr (9, [.ref a_m_row, .ref a_m_isKept, .ref a_m_text, .int m_length, .ref a_m_read, .int m_readMany, .int m_yards, .ref a_m_tides, .ref a_m_seeps, .int m_seepMany, .ref a_m_kinds, .ref a_m_paces, .ref a_m_ears, .int m_many, .int m_at, .int m_place, .int m_end, .int m_readYards, .int m_readSeeps, .int m_readChildren, .ref a_m_hearers, .ref a_m_chosen, .int m_chosenMany, .ref a_m_dues, .ref a_m_sights, .int m_seenMany])), (a_m_row, .inl (cI, 95, .inl g21)), (a_m_paces, .inl (cI, 5, .inl m_paces))] H locs → lv_has ls 5 [(0, .ref a_m), (1, .int p1), (2, .int p2), (3, .int x1)] → W p l e rm_X9_walk s m args below meth c H locs 0 0 Q (F0 m 108 ls [.int y30, .int v24, .int v23, .ref a_m_row]) := by
              intro y30 hF H locs ls hw hl
              replace hF := hK31 y30 hF
              refine lv_iadd hx hb (dq dt_X9_walk 69 rfl) ?_
              obtain ⟨v32, ev32, hF⟩ := bd_ hF
              refine kNmI ev32 ?_
              obtain ⟨g33, eg33, hi34, hF⟩ := wr_ hF
              refine kIast (ws' := [(a_m, .inr (9, [.ref a_m_row, .ref a_m_isKept, .ref a_m_text, .int m_length, .ref a_m_read, .int m_readMany, .int m_yards, .ref a_m_tides, .ref a_m_seeps, .int m_seepMany, .ref a_m_kinds, .ref a_m_paces, .ref a_m_ears, .int m_many, .int m_at, .int m_place, .int m_end, .int m_readYards, .int m_readSeeps, .int m_readChildren, .ref a_m_hearers, .ref a_m_chosen, .int m_chosenMany, .ref a_m_dues, .ref a_m_sights, .int m_seenMany])), (a_m_row, .inl (cI, 95, .inl g33)), (a_m_paces, .inl (cI, 5, .inl m_paces))]) C hw 1 1 rfl rfl hi34 eg33 rfl (dq dt_X9_walk 70 rfl) (fun H locs hw => ?_)
              obtain ⟨v35, ev35, hF⟩ := bd_ hF
              refine lv_iinc (v := v35) (lv' := [(3, .int v35), (0, .ref a_m), (1, .int p1), (2, .int p2)]) hx hb (dq dt_X9_walk 71 rfl) hl (k := 3) rfl ev35.symm (by decide) rfl (fun ls hl => ?_)
              refine lv_goto (tgt := 2) hx hb (dq dt_X9_walk 72 rfl) (by decide) ?_
              exact ih3 v35 g33 hF _ _ _ hw (lv_sub hl [1, 2, 3, 0] rfl)
            refine lv_if_eq (tgt := 107) hx hb (dq dt_X9_walk 65 rfl) (by decide) (fun c36 => ?_) (fun c36 => ?_)
            · replace hF := if_t c36 hF
              refine lv_iconst (v := (1 : Int32)) hx hb (dq dt_X9_walk 68 rfl) (by decide) ?_
              exact J31 (1 : Int32) hF _ _ _ hw (lv_sub hl [0, 1, 2, 3] rfl)
            · replace hF := if_f c36 hF
              refine lv_iconst (v := (-1 : Int32)) hx hb (dq dt_X9_walk 66 rfl) (by decide) ?_
              refine lv_goto (tgt := 108) hx hb (dq dt_X9_walk 67 rfl) (by decide) ?_
              exact J31 (-1 : Int32) hF _ _ _ hw (lv_sub hl [0, 1, 2, 3] rfl)
          refine lv_icmp_ne (tgt := 72) hx hb (dq dt_X9_walk 40 rfl) (by decide) (fun c37 => ?_) (fun c37 => ?_)
          · replace hF := if_f c37 hF
            refine lv_iconst (v := (0 : Int32)) hx hb (dq dt_X9_walk 45 rfl) (by decide) ?_
            exact J19 (0 : Int32) hF _ _ _ hw (lv_sub hl [1, 2, 3, 4] rfl)
          · replace hF := if_t c37 hF
            refine lv_iconst (v := (1 : Int32)) hx hb (dq dt_X9_walk 41 rfl) (by decide) ?_
            refine lv_iload_n hx hb (dq dt_X9_walk 42 rfl) rfl (lv_at hl 3 rfl) ?_
            refine lv_ishl hx hb (dq dt_X9_walk 43 rfl) ?_
            refine lv_goto (tgt := 73) hx hb (dq dt_X9_walk 44 rfl) (by decide) ?_
            exact J19 ((1 : Int32) <<< (p2 &&& 31)) hF _ _ _ hw (lv_sub hl [1, 2, 3, 4] rfl)
        refine lv_if_eq (tgt := 32) hx hb (dq dt_X9_walk 16 rfl) (by decide) (fun c38 => ?_) (fun c38 => ?_)
        · replace hF := if_t c38 hF
          refine lv_aload_n hx hb (dq dt_X9_walk 19 rfl) rfl (lv_at hl 0 rfl) ?_
          refine kGet (ci := 9) C in_X9 hw 0 rfl rfl 6 (by decide) (C.2.2.2.2.2.2.1 _ q4_101) rfl rfl (dq dt_X9_walk 20 rfl) ?_
          refine lv_iconst (v := (1 : Int32)) hx hb (dq dt_X9_walk 21 rfl) (by decide) ?_
          refine lv_isub hx hb (dq dt_X9_walk 22 rfl) ?_
          exact J12 (m_yards - (1 : Int32)) hF _ _ _ hw (lv_sub hl [0, 1, 2, 3] rfl)
        · replace hF := if_f c38 hF
          refine lv_iconst (v := (0 : Int32)) hx hb (dq dt_X9_walk 17 rfl) (by decide) ?_
          refine lv_goto (tgt := 38) hx hb (dq dt_X9_walk 18 rfl) (by decide) ?_
          exact J12 (0 : Int32) hF _ _ _ hw (lv_sub hl [0, 1, 2, 3] rfl)
  exact L3 _ (0 : Int32) m_row hF _ _ _ hw (lv_sub hl [1, 2, 3, 0] rfl)
def F_X9_hour (m_yards : Int32) (m_seepMany : Int32) (m_many : Int32) (m_row : Nat → Int32) (m_tides : Nat → Int32) (m_seeps : Nat → Int32) (m_paces : Nat → Int32) (p1 : Int32) : Option ((Nat → Int32)) :=
  rd 95 m_row (p1 + (18 : Int32)) (fun v1 => rd 12 m_tides (v1 - v1 / (12 : Int32) * (12 : Int32)) (fun v3 => zl2 (fun x5 h6 ag7 => if m_seepMany ≤ x5 then (zl2 (fun x9 h10 ag11 => if m_many ≤ x9 then (bd (p1 + (18 : Int32)) (fun v13 => rd 95 h10 v13 (fun v14 => bd (v14 + (1 : Int32)) (fun v16 => wr 95 v13 (upd h10 (v13).toNatClampNeg v16) (fun g17 => some g17))))) else (zc1 (F_X9_walk m_yards h10 m_paces p1 x9) (fun g19 => bd (x9 + (1 : Int32)) (fun v21 => ag11 v21 g19)))) FU (0 : Int32) h6) else (rd 95 h6 (p1 + (6 : Int32)) (fun v22 => zc1 (F_X9_has v22 x5) (fun v24 => zj1 (fun y26 => rd 95 h6 (p1 + x5) (fun v28 => if (v28 + y26) ≤ (100 : Int32) then (rd 95 h6 (p1 + x5) (fun v31 => bd (v31 + y26) (fun v33 => wr 95 (p1 + x5) (upd h6 ((p1 + x5)).toNatClampNeg v33) (fun g34 => bd (x5 + (1 : Int32)) (fun v36 => ag7 v36 g34))))) else (wr 95 (p1 + x5) (upd h6 ((p1 + x5)).toNatClampNeg (100 : Int32)) (fun g37 => bd (x5 + (1 : Int32)) (fun v39 => ag7 v39 g37))))) (fun K27 => if v24 = 0 then (rd 18 m_seeps (((3 : Int32) * x5) + (2 : Int32)) (fun v41 => if v3 < v41 then (K27 (0 : Int32)) else (rd 18 m_seeps (((3 : Int32) * x5) + (1 : Int32)) (fun v44 => K27 v44)))) else (K27 (0 : Int32))))))) FU (0 : Int32) m_row))
abbrev rm_X9_hour : Room := { frames := 2, cells := 0, slots := 0, locals := 45 }
theorem kd_X9_hour : yX9_hour.cls = RX9 ∧ yX9_hour.cls ≠ "java/lang/invoke/MethodHandle" ∧ yX9_hour.cls ≠ "java/lang/invoke/VarHandle" ∧ (parseMethodDescriptor yX9_hour.desc).map (fun d => d.parameters.length) = some 1 := by decide +kernel
set_option maxRecDepth 100000 in
set_option maxHeartbeats 4000000 in
theorem A_X9_hour (l : Launch) (D : va_G) (cB cI cJ cZ : ClassId) (ad : (Nat → Nat) × (Nat → Nat)) (a_m a_m_row a_m_isKept a_m_text a_m_read a_m_tides a_m_seeps a_m_kinds a_m_paces a_m_ears a_m_hearers a_m_chosen a_m_dues a_m_sights : Nat) (m_length : Int32) (m_readMany : Int32) (m_yards : Int32) (m_seepMany : Int32) (m_many : Int32) (m_at : Int32) (m_place : Int32) (m_end : Int32) (m_readYards : Int32) (m_readSeeps : Int32) (m_readChildren : Int32) (m_chosenMany : Int32) (m_seenMany : Int32) (m_row : Nat → Int32) (m_tides : Nat → Int32) (m_seeps : Nat → Int32) (m_paces : Nat → Int32) (p1 : Int32) (m_row' : Nat → Int32) (hF : F_X9_hour m_yards m_seepMany m_many m_row m_tides m_seeps m_paces p1 = some m_row') : kM l yX9_hour (Cond.code yX9_hour cX9_hour 5 (none) :: W0) rm_X9_hour D (kT cB cI cJ cZ) ad [.ref a_m, .int p1] [(a_m, .inr (9, [.ref a_m_row, .ref a_m_isKept, .ref a_m_text, .int m_length, .ref a_m_read, .int m_readMany, .int m_yards, .ref a_m_tides, .ref a_m_seeps, .int m_seepMany, .ref a_m_kinds, .ref a_m_paces, .ref a_m_ears, .int m_many, .int m_at, .int m_place, .int m_end, .int m_readYards, .int m_readSeeps, .int m_readChildren, .ref a_m_hearers, .ref a_m_chosen, .int m_chosenMany, .ref a_m_dues, .ref a_m_sights, .int m_seenMany])), (a_m_row, .inl (cI, 95, .inl m_row)), (a_m_tides, .inl (cI, 12, .inl m_tides)), (a_m_seeps, .inl (cI, 18, .inl m_seeps)), (a_m_paces, .inl (cI, 5, .inl m_paces))] none [(a_m, .inr (9, [.ref a_m_row, .ref a_m_isKept, .ref a_m_text, .int m_length, .ref a_m_read, .int m_readMany, .int m_yards, .ref a_m_tides, .ref a_m_seeps, .int m_seepMany, .ref a_m_kinds, .ref a_m_paces, .ref a_m_ears, .int m_many, .int m_at, .int m_place, .int m_end, .int m_readYards, .int m_readSeeps, .int m_readChildren, .ref a_m_hearers, .ref a_m_chosen, .int m_chosenMany, .ref a_m_dues, .ref a_m_sights, .int m_seenMany])), (a_m_row, .inl (cI, 95, .inl (m_row'))), (a_m_tides, .inl (cI, 12, .inl m_tides)), (a_m_seeps, .inl (cI, 18, .inl m_seeps)), (a_m_paces, .inl (cI, 5, .inl m_paces))] := by
  unfold F_X9_hour at hF
  refine kStart (lv := [(0, .ref a_m), (1, .int p1)]) (own := "DikeWatchModel") (plainFor_of_name (by decide)) rfl (Nat.le_of_ble_eq_true rfl) rfl ?_
  intro p e s m args below meth c A Q ls hQ C hx hb hw hl
  refine lv_aload_n hx hb (dq dt_X9_hour 0 rfl) rfl (lv_at hl 0 rfl) ?_
  refine kGet (ci := 9) C in_X9 hw 0 rfl rfl 7 (by decide) (C.2.2.2.2.2.2.1 _ q4_102) rfl rfl (dq dt_X9_hour 1 rfl) ?_
  refine lv_aload_n hx hb (dq dt_X9_hour 2 rfl) rfl (lv_at hl 0 rfl) ?_
  refine kGet (ci := 9) C in_X9 hw 0 rfl rfl 0 (by decide) (C.2.2.2.2.2.2.1 _ q4_95) rfl rfl (dq dt_X9_hour 3 rfl) ?_
  refine lv_iload_n hx hb (dq dt_X9_hour 4 rfl) rfl (lv_at hl 1 rfl) ?_
  refine lv_bipush (v := (18 : Int32)) hx hb (dq dt_X9_hour 5 rfl) (by decide) ?_
  refine lv_iadd hx hb (dq dt_X9_hour 6 rfl) ?_
  obtain ⟨v1, ev1, hi2, hF⟩ := rd_ hF
  refine kIald C hw 1 1 rfl rfl hi2 ev1 (dq dt_X9_hour 7 rfl) ?_
  refine lv_bipush (v := (12 : Int32)) hx hb (dq dt_X9_hour 8 rfl) (by decide) ?_
  refine lv_irem hx hb (dq dt_X9_hour 9 rfl) (by decide) ?_
  obtain ⟨v3, ev3, hi4, hF⟩ := rd_ hF
  refine kIald C hw 2 1 rfl rfl hi4 ev3 (dq dt_X9_hour 10 rfl) ?_
  refine lv_istore_n (lv' := [(2, .int v3), (0, .ref a_m), (1, .int p1)]) hx hb (dq dt_X9_hour 11 rfl) rfl hl (by decide) rfl (fun ls hl => ?_)
  refine lv_iconst (v := (0 : Int32)) hx hb (dq dt_X9_hour 12 rfl) (by decide) ?_
  refine lv_istore_n (lv' := [(3, .int (0 : Int32)), (2, .int v3), (0, .ref a_m), (1, .int p1)]) hx hb (dq dt_X9_hour 13 rfl) rfl hl (by decide) rfl (fun ls hl => ?_)
  obtain ⟨K7, hK07, hK7, hF⟩ := zl2_ hF
  have L7 : ∀ (n : Nat) (x5 : Int32) (h6 : Nat → Int32), K7 n x5 h6 = some m_row' → ∀ (H : Heap) (locs : List Loc) (ls : Array Slot), kW D A s.heap [(a_m, .inr (9, [.ref a_m_row, .ref a_m_isKept, .ref a_m_text, .int m_length, .ref a_m_read, .int m_readMany, .int m_yards, .ref a_m_tides, .ref a_m_seeps, .int m_seepMany, .ref a_m_kinds, .ref a_m_paces, .ref a_m_ears, .int m_many, .int m_at, .int m_place, .int m_end, .int m_readYards, .int m_readSeeps, .int m_readChildren, .ref a_m_hearers, .ref a_m_chosen, .int m_chosenMany, .ref a_m_dues, .ref a_m_sights, .int m_seenMany])), (a_m_row, .inl (cI, 95, .inl h6)), (a_m_tides, .inl (cI, 12, .inl m_tides)), (a_m_seeps, .inl (cI, 18, .inl m_seeps)), (a_m_paces, .inl (cI, 5, .inl m_paces))] H locs → lv_has ls 5 [(0, .ref a_m), (1, .int p1), (2, .int v3), (3, .int x5)] → W p l e rm_X9_hour s m args below meth c H locs 0 0 Q (F0 m 20 ls []) := by
    intro n
    induction n with
    | zero => intro x5 h6 hF; exact (lp_no (hK07 x5 h6) hF).elim
    | succ n ih7 =>
      intro x5 h6 hF H locs ls hw hl
      replace hF := hK7 n x5 h6 hF
      refine lv_iload_n hx hb (dq dt_X9_hour 14 rfl) rfl (lv_at hl 3 rfl) ?_
      refine lv_aload_n hx hb (dq dt_X9_hour 15 rfl) rfl (lv_at hl 0 rfl) ?_
      refine kGet (ci := 9) C in_X9 hw 0 rfl rfl 9 (by decide) (C.2.2.2.2.2.2.1 _ q4_104) rfl rfl (dq dt_X9_hour 16 rfl) ?_
      refine lv_icmp_ge (tgt := 120) hx hb (dq dt_X9_hour 17 rfl) (by decide) (fun c8 => ?_) (fun c8 => ?_)
      · replace hF := if_t c8 hF
        refine lv_iconst (v := (0 : Int32)) hx hb (dq dt_X9_hour 76 rfl) (by decide) ?_
        refine lv_istore_n (lv' := [(3, .int (0 : Int32)), (0, .ref a_m), (1, .int p1), (2, .int v3)]) hx hb (dq dt_X9_hour 77 rfl) rfl hl (by decide) rfl (fun ls hl => ?_)
        obtain ⟨K11, hK011, hK11, hF⟩ := zl2_ hF
        have L11 : ∀ (n : Nat) (x9 : Int32) (h10 : Nat → Int32), K11 n x9 h10 = some m_row' → ∀ (H : Heap) (locs : List Loc) (ls : Array Slot), kW D A s.heap [(a_m, .inr (9, [.ref a_m_row, .ref a_m_isKept, .ref a_m_text, .int m_length, .ref a_m_read, .int m_readMany, .int m_yards, .ref a_m_tides, .ref a_m_seeps, .int m_seepMany, .ref a_m_kinds, .ref a_m_paces, .ref a_m_ears, .int m_many, .int m_at, .int m_place, .int m_end, .int m_readYards, .int m_readSeeps, .int m_readChildren, .ref a_m_hearers, .ref a_m_chosen, .int m_chosenMany, .ref a_m_dues, .ref a_m_sights, .int m_seenMany])), (a_m_row, .inl (cI, 95, .inl h10)), (a_m_tides, .inl (cI, 12, .inl m_tides)), (a_m_seeps, .inl (cI, 18, .inl m_seeps)), (a_m_paces, .inl (cI, 5, .inl m_paces))] H locs → lv_has ls 5 [(0, .ref a_m), (1, .int p1), (3, .int x9)] → W p l e rm_X9_hour s m args below meth c H locs 0 0 Q (F0 m 122 ls []) := by
          intro n
          induction n with
          | zero => intro x9 h10 hF; exact (lp_no (hK011 x9 h10) hF).elim
          | succ n ih11 =>
            intro x9 h10 hF H locs ls hw hl
            replace hF := hK11 n x9 h10 hF
            refine lv_iload_n hx hb (dq dt_X9_hour 78 rfl) rfl (lv_at hl 2 rfl) ?_
            refine lv_aload_n hx hb (dq dt_X9_hour 79 rfl) rfl (lv_at hl 0 rfl) ?_
            refine kGet (ci := 9) C in_X9 hw 0 rfl rfl 13 (by decide) (C.2.2.2.2.2.2.1 _ q4_108) rfl rfl (dq dt_X9_hour 80 rfl) ?_
            refine lv_icmp_ge (tgt := 142) hx hb (dq dt_X9_hour 81 rfl) (by decide) (fun c12 => ?_) (fun c12 => ?_)
            · replace hF := if_t c12 hF
              refine lv_aload_n hx hb (dq dt_X9_hour 88 rfl) rfl (lv_at hl 0 rfl) ?_
              refine kGet (ci := 9) C in_X9 hw 0 rfl rfl 0 (by decide) (C.2.2.2.2.2.2.1 _ q4_95) rfl rfl (dq dt_X9_hour 89 rfl) ?_
              refine lv_iload_n hx hb (dq dt_X9_hour 90 rfl) rfl (lv_at hl 1 rfl) ?_
              refine lv_bipush (v := (18 : Int32)) hx hb (dq dt_X9_hour 91 rfl) (by decide) ?_
              refine lv_iadd hx hb (dq dt_X9_hour 92 rfl) ?_
              obtain ⟨v13, ev13, hF⟩ := bd_ hF
              refine kNmI ev13 ?_
              refine lv_dup2_11 hx hb (dq dt_X9_hour 93 rfl) rfl rfl ?_
              obtain ⟨v14, ev14, hi15, hF⟩ := rd_ hF
              refine kIald C hw 1 1 rfl rfl hi15 ev14 (dq dt_X9_hour 94 rfl) ?_
              refine lv_iconst (v := (1 : Int32)) hx hb (dq dt_X9_hour 95 rfl) (by decide) ?_
              refine lv_iadd hx hb (dq dt_X9_hour 96 rfl) ?_
              obtain ⟨v16, ev16, hF⟩ := bd_ hF
              refine kNmI ev16 ?_
              obtain ⟨g17, eg17, hi18, hF⟩ := wr_ hF
              refine kIast (ws' := [(a_m, .inr (9, [.ref a_m_row, .ref a_m_isKept, .ref a_m_text, .int m_length, .ref a_m_read, .int m_readMany, .int m_yards, .ref a_m_tides, .ref a_m_seeps, .int m_seepMany, .ref a_m_kinds, .ref a_m_paces, .ref a_m_ears, .int m_many, .int m_at, .int m_place, .int m_end, .int m_readYards, .int m_readSeeps, .int m_readChildren, .ref a_m_hearers, .ref a_m_chosen, .int m_chosenMany, .ref a_m_dues, .ref a_m_sights, .int m_seenMany])), (a_m_row, .inl (cI, 95, .inl g17)), (a_m_tides, .inl (cI, 12, .inl m_tides)), (a_m_seeps, .inl (cI, 18, .inl m_seeps)), (a_m_paces, .inl (cI, 5, .inl m_paces))]) C hw 1 1 rfl rfl hi18 eg17 rfl (dq dt_X9_hour 97 rfl) (fun H locs hw => ?_)
              cases hF
              exact kRetV hQ C hw (dq dt_X9_hour 98 rfl)
            · replace hF := if_f c12 hF
              refine lv_aload_n hx hb (dq dt_X9_hour 82 rfl) rfl (lv_at hl 0 rfl) ?_
              refine lv_iload_n hx hb (dq dt_X9_hour 83 rfl) rfl (lv_at hl 1 rfl) ?_
              refine lv_iload_n hx hb (dq dt_X9_hour 84 rfl) rfl (lv_at hl 2 rfl) ?_
              obtain ⟨g19, hr20, hF⟩ := zc1_ hF
              refine kCallV (ws2 := [(a_m, .inr (9, [.ref a_m_row, .ref a_m_isKept, .ref a_m_text, .int m_length, .ref a_m_read, .int m_readMany, .int m_yards, .ref a_m_tides, .ref a_m_seeps, .int m_seepMany, .ref a_m_kinds, .ref a_m_paces, .ref a_m_ears, .int m_many, .int m_at, .int m_place, .int m_end, .int m_readYards, .int m_readSeeps, .int m_readChildren, .ref a_m_hearers, .ref a_m_chosen, .int m_chosenMany, .ref a_m_dues, .ref a_m_sights, .int m_seenMany])), (a_m_row, .inl (cI, 95, .inl g19)), (a_m_tides, .inl (cI, 12, .inl m_tides)), (a_m_seeps, .inl (cI, 18, .inl m_seeps)), (a_m_paces, .inl (cI, 5, .inl m_paces))]) C hw (A_X9_walk l D cB cI cJ cZ ad a_m a_m_row a_m_isKept a_m_text a_m_read a_m_tides a_m_seeps a_m_kinds a_m_paces a_m_ears a_m_hearers a_m_chosen a_m_dues a_m_sights m_length m_readMany m_yards m_seepMany m_many m_at m_place m_end m_readYards m_readSeeps m_readChildren m_chosenMany m_seenMany h10 m_paces p1 x9 g19 hr20) (cwV 2 C.2.2.2.2.2.2.1 (w0_V0 q5_73 q5_70 q5_72 (ws0 39 rfl) q1_10) rfl rfl rfl kd_X9_walk ⟨Nat.le_of_ble_eq_true rfl, Nat.le_of_ble_eq_true rfl⟩) [0, 1, 4] rfl rfl rfl rfl 0 9 rfl rfl hl.1 rfl rfl rfl (Nat.le_of_ble_eq_true rfl) ⟨Nat.le_of_ble_eq_true rfl, Nat.le_of_ble_eq_true rfl⟩ (dq dt_X9_hour 85 rfl) (fun H locs hw => ?_)
              obtain ⟨v21, ev21, hF⟩ := bd_ hF
              refine lv_iinc (v := v21) (lv' := [(3, .int v21), (0, .ref a_m), (1, .int p1)]) hx hb (dq dt_X9_hour 86 rfl) hl (k := 2) rfl ev21.symm (by decide) rfl (fun ls hl => ?_)
              refine lv_goto (tgt := 122) hx hb (dq dt_X9_hour 87 rfl) (by decide) ?_
              exact ih11 v21 g19 hF _ _ _ hw (lv_sub hl [1, 2, 0] rfl)
        exact L11 _ (0 : Int32) h6 hF _ _ _ hw (lv_sub hl [1, 2, 0] rfl)
      · replace hF := if_f c8 hF
        refine lv_aload_n hx hb (dq dt_X9_hour 18 rfl) rfl (lv_at hl 0 rfl) ?_
        refine kGet (ci := 9) C in_X9 hw 0 rfl rfl 0 (by decide) (C.2.2.2.2.2.2.1 _ q4_95) rfl rfl (dq dt_X9_hour 19 rfl) ?_
        refine lv_iload_n hx hb (dq dt_X9_hour 20 rfl) rfl (lv_at hl 1 rfl) ?_
        refine lv_bipush (v := (6 : Int32)) hx hb (dq dt_X9_hour 21 rfl) (by decide) ?_
        refine lv_iadd hx hb (dq dt_X9_hour 22 rfl) ?_
        obtain ⟨v22, ev22, hi23, hF⟩ := rd_ hF
        refine kIald C hw 1 1 rfl rfl hi23 ev22 (dq dt_X9_hour 23 rfl) ?_
        refine lv_iload_n hx hb (dq dt_X9_hour 24 rfl) rfl (lv_at hl 3 rfl) ?_
        obtain ⟨v24, hr25, hF⟩ := zc1_ hF
        refine kCallSP C hw (A_X9_has l D cB cI cJ cZ ad v22 x5 v24 hr25) (va_cwS 2 C.2.2.2.2.2.2.1 (w0_S0 q5_52 q5_50 q5_51 q1_10) rfl rfl rfl ke_X9_has ⟨Nat.le_of_ble_eq_true rfl, Nat.le_of_ble_eq_true rfl⟩) hl.1 rfl rfl rfl (Nat.le_of_ble_eq_true rfl) ⟨Nat.le_of_ble_eq_true rfl, Nat.le_of_ble_eq_true rfl⟩ (dq dt_X9_hour 25 rfl) (fun H locs hw => ?_)
        obtain ⟨K27, hK27, hF⟩ := zj1_ hF
        have J27 : ∀ (y26 : Int32), K27 y26 = some m_row' → ∀ (H : Heap) (locs : List Loc) (ls : Array Slot), kW D A s.heap [(a_m, .inr (9, [.ref a_m_row, .ref a_m_isKept, .ref a_m_text, .int m_length, .ref a_m_read, .int m_readMany, .int m_yards, .ref a_m_tides, .ref a_m_seeps, .int m_seepMany, .ref a_m_kinds, .ref a_m_paces, .ref a_m_ears, .int m_many, .int m_at, .int m_place, .int m_end, .int m_readYards, .int m_readSeeps, .int m_readChildren, .ref a_m_hearers, .ref a_m_chosen, .int m_chosenMany, .ref a_m_dues, .ref a_m_sights, .int m_seenMany])), (a_m_row, .inl (cI, 95, .inl h6)), (a_m_tides, .inl (cI, 12, .inl m_tides)), (a_m_seeps, .inl (cI, 18, .inl m_seeps)), (a_m_paces, .inl (cI, 5, .inl m_paces))] H locs → lv_has ls 5 [(0, .ref a_m), (1, .int p1), (2, .int v3), (3, .int x5)] → W p l e rm_X9_hour s m args below meth c H locs 0 0 Q (F0 m 72 ls [.int y26]) := by
          intro y26 hF H locs ls hw hl
          replace hF := hK27 y26 hF
          refine lv_istore (lv' := [(4, .int y26), (0, .ref a_m), (1, .int p1), (2, .int v3), (3, .int x5)]) hx hb (dq dt_X9_hour 47 rfl) hl (by decide) rfl (fun ls hl => ?_)
          refine lv_aload_n hx hb (dq dt_X9_hour 48 rfl) rfl (lv_at hl 1 rfl) ?_
          refine kGet (ci := 9) C in_X9 hw 0 rfl rfl 0 (by decide) (C.2.2.2.2.2.2.1 _ q4_95) rfl rfl (dq dt_X9_hour 49 rfl) ?_
          refine lv_iload_n hx hb (dq dt_X9_hour 50 rfl) rfl (lv_at hl 2 rfl) ?_
          refine lv_iload_n hx hb (dq dt_X9_hour 51 rfl) rfl (lv_at hl 4 rfl) ?_
          refine lv_iadd hx hb (dq dt_X9_hour 52 rfl) ?_
          refine lv_aload_n hx hb (dq dt_X9_hour 53 rfl) rfl (lv_at hl 1 rfl) ?_
          refine kGet (ci := 9) C in_X9 hw 0 rfl rfl 0 (by decide) (C.2.2.2.2.2.2.1 _ q4_95) rfl rfl (dq dt_X9_hour 54 rfl) ?_
          refine lv_iload_n hx hb (dq dt_X9_hour 55 rfl) rfl (lv_at hl 2 rfl) ?_
          refine lv_iload_n hx hb (dq dt_X9_hour 56 rfl) rfl (lv_at hl 4 rfl) ?_
          refine lv_iadd hx hb (dq dt_X9_hour 57 rfl) ?_
          obtain ⟨v28, ev28, hi29, hF⟩ := rd_ hF
          refine kIald C hw 1 1 rfl rfl hi29 ev28 (dq dt_X9_hour 58 rfl) ?_
          refine lv_iload hx hb (dq dt_X9_hour 59 rfl) (lv_at hl 0 rfl) ?_
          refine lv_iadd hx hb (dq dt_X9_hour 60 rfl) ?_
          refine lv_bipush (v := (100 : Int32)) hx hb (dq dt_X9_hour 61 rfl) (by decide) ?_
          refine lv_icmp_le (tgt := 102) hx hb (dq dt_X9_hour 62 rfl) (by decide) (fun c30 => ?_) (fun c30 => ?_)
          · replace hF := if_t c30 hF
            refine lv_aload_n hx hb (dq dt_X9_hour 65 rfl) rfl (lv_at hl 1 rfl) ?_
            refine kGet (ci := 9) C in_X9 hw 0 rfl rfl 0 (by decide) (C.2.2.2.2.2.2.1 _ q4_95) rfl rfl (dq dt_X9_hour 66 rfl) ?_
            refine lv_iload_n hx hb (dq dt_X9_hour 67 rfl) rfl (lv_at hl 2 rfl) ?_
            refine lv_iload_n hx hb (dq dt_X9_hour 68 rfl) rfl (lv_at hl 4 rfl) ?_
            refine lv_iadd hx hb (dq dt_X9_hour 69 rfl) ?_
            obtain ⟨v31, ev31, hi32, hF⟩ := rd_ hF
            refine kIald C hw 1 1 rfl rfl hi32 ev31 (dq dt_X9_hour 70 rfl) ?_
            refine lv_iload hx hb (dq dt_X9_hour 71 rfl) (lv_at hl 0 rfl) ?_
            refine lv_iadd hx hb (dq dt_X9_hour 72 rfl) ?_
            obtain ⟨v33, ev33, hF⟩ := bd_ hF
            refine kNmI ev33 ?_
            obtain ⟨g34, eg34, hi35, hF⟩ := wr_ hF
            refine kIast (ws' := [(a_m, .inr (9, [.ref a_m_row, .ref a_m_isKept, .ref a_m_text, .int m_length, .ref a_m_read, .int m_readMany, .int m_yards, .ref a_m_tides, .ref a_m_seeps, .int m_seepMany, .ref a_m_kinds, .ref a_m_paces, .ref a_m_ears, .int m_many, .int m_at, .int m_place, .int m_end, .int m_readYards, .int m_readSeeps, .int m_readChildren, .ref a_m_hearers, .ref a_m_chosen, .int m_chosenMany, .ref a_m_dues, .ref a_m_sights, .int m_seenMany])), (a_m_row, .inl (cI, 95, .inl g34)), (a_m_tides, .inl (cI, 12, .inl m_tides)), (a_m_seeps, .inl (cI, 18, .inl m_seeps)), (a_m_paces, .inl (cI, 5, .inl m_paces))]) C hw 1 1 rfl rfl hi35 eg34 rfl (dq dt_X9_hour 73 rfl) (fun H locs hw => ?_)
            obtain ⟨v36, ev36, hF⟩ := bd_ hF
            refine lv_iinc (v := v36) (lv' := [(3, .int v36), (4, .int y26), (0, .ref a_m), (1, .int p1), (2, .int v3)]) hx hb (dq dt_X9_hour 74 rfl) hl (k := 4) rfl ev36.symm (by decide) rfl (fun ls hl => ?_)
            refine lv_goto (tgt := 20) hx hb (dq dt_X9_hour 75 rfl) (by decide) ?_
            exact ih7 v36 g34 hF _ _ _ hw (lv_sub hl [2, 3, 4, 0] rfl)
          · replace hF := if_f c30 hF
            refine lv_bipush (v := (100 : Int32)) hx hb (dq dt_X9_hour 63 rfl) (by decide) ?_
            refine lv_goto (tgt := 113) hx hb (dq dt_X9_hour 64 rfl) (by decide) ?_
            obtain ⟨g37, eg37, hi38, hF⟩ := wr_ hF
            refine kIast (ws' := [(a_m, .inr (9, [.ref a_m_row, .ref a_m_isKept, .ref a_m_text, .int m_length, .ref a_m_read, .int m_readMany, .int m_yards, .ref a_m_tides, .ref a_m_seeps, .int m_seepMany, .ref a_m_kinds, .ref a_m_paces, .ref a_m_ears, .int m_many, .int m_at, .int m_place, .int m_end, .int m_readYards, .int m_readSeeps, .int m_readChildren, .ref a_m_hearers, .ref a_m_chosen, .int m_chosenMany, .ref a_m_dues, .ref a_m_sights, .int m_seenMany])), (a_m_row, .inl (cI, 95, .inl g37)), (a_m_tides, .inl (cI, 12, .inl m_tides)), (a_m_seeps, .inl (cI, 18, .inl m_seeps)), (a_m_paces, .inl (cI, 5, .inl m_paces))]) C hw 1 1 rfl rfl hi38 eg37 rfl (dq dt_X9_hour 73 rfl) (fun H locs hw => ?_)
            obtain ⟨v39, ev39, hF⟩ := bd_ hF
            refine lv_iinc (v := v39) (lv' := [(3, .int v39), (4, .int y26), (0, .ref a_m), (1, .int p1), (2, .int v3)]) hx hb (dq dt_X9_hour 74 rfl) hl (k := 4) rfl ev39.symm (by decide) rfl (fun ls hl => ?_)
            refine lv_goto (tgt := 20) hx hb (dq dt_X9_hour 75 rfl) (by decide) ?_
            exact ih7 v39 g37 hF _ _ _ hw (lv_sub hl [2, 3, 4, 0] rfl)
        refine lv_if_ne (tgt := 71) hx hb (dq dt_X9_hour 26 rfl) (by decide) (fun c40 => ?_) (fun c40 => ?_)
        · replace hF := if_f c40 hF
          refine lv_iconst (v := (0 : Int32)) hx hb (dq dt_X9_hour 46 rfl) (by decide) ?_
          exact J27 (0 : Int32) hF _ _ _ hw (lv_sub hl [0, 1, 2, 3] rfl)
        · replace hF := if_t c40 hF
          refine lv_iload_n hx hb (dq dt_X9_hour 27 rfl) rfl (lv_at hl 2 rfl) ?_
          refine lv_aload_n hx hb (dq dt_X9_hour 28 rfl) rfl (lv_at hl 0 rfl) ?_
          refine kGet (ci := 9) C in_X9 hw 0 rfl rfl 8 (by decide) (C.2.2.2.2.2.2.1 _ q4_103) rfl rfl (dq dt_X9_hour 29 rfl) ?_
          refine lv_iconst (v := (3 : Int32)) hx hb (dq dt_X9_hour 30 rfl) (by decide) ?_
          refine lv_iload_n hx hb (dq dt_X9_hour 31 rfl) rfl (lv_at hl 3 rfl) ?_
          refine lv_imul hx hb (dq dt_X9_hour 32 rfl) ?_
          refine lv_iconst (v := (2 : Int32)) hx hb (dq dt_X9_hour 33 rfl) (by decide) ?_
          refine lv_iadd hx hb (dq dt_X9_hour 34 rfl) ?_
          obtain ⟨v41, ev41, hi42, hF⟩ := rd_ hF
          refine kIald C hw 3 1 rfl rfl hi42 ev41 (dq dt_X9_hour 35 rfl) ?_
          refine lv_icmp_lt (tgt := 71) hx hb (dq dt_X9_hour 36 rfl) (by decide) (fun c43 => ?_) (fun c43 => ?_)
          · replace hF := if_t c43 hF
            refine lv_iconst (v := (0 : Int32)) hx hb (dq dt_X9_hour 46 rfl) (by decide) ?_
            exact J27 (0 : Int32) hF _ _ _ hw (lv_sub hl [0, 1, 2, 3] rfl)
          · replace hF := if_f c43 hF
            refine lv_aload_n hx hb (dq dt_X9_hour 37 rfl) rfl (lv_at hl 0 rfl) ?_
            refine kGet (ci := 9) C in_X9 hw 0 rfl rfl 8 (by decide) (C.2.2.2.2.2.2.1 _ q4_103) rfl rfl (dq dt_X9_hour 38 rfl) ?_
            refine lv_iconst (v := (3 : Int32)) hx hb (dq dt_X9_hour 39 rfl) (by decide) ?_
            refine lv_iload_n hx hb (dq dt_X9_hour 40 rfl) rfl (lv_at hl 3 rfl) ?_
            refine lv_imul hx hb (dq dt_X9_hour 41 rfl) ?_
            refine lv_iconst (v := (1 : Int32)) hx hb (dq dt_X9_hour 42 rfl) (by decide) ?_
            refine lv_iadd hx hb (dq dt_X9_hour 43 rfl) ?_
            obtain ⟨v44, ev44, hi45, hF⟩ := rd_ hF
            refine kIald C hw 3 1 rfl rfl hi45 ev44 (dq dt_X9_hour 44 rfl) ?_
            refine lv_goto (tgt := 72) hx hb (dq dt_X9_hour 45 rfl) (by decide) ?_
            exact J27 v44 hF _ _ _ hw (lv_sub hl [0, 1, 2, 3] rfl)
  exact L7 _ (0 : Int32) m_row hF _ _ _ hw (lv_sub hl [2, 3, 1, 0] rfl)
def F_X9_go (m_yards : Int32) (m_seepMany : Int32) (m_many : Int32) (m_row : Nat → Int32) (m_tides : Nat → Int32) (m_seeps : Nat → Int32) (m_paces : Nat → Int32) (p1 : Int32) : Option (Int32 × (Nat → Int32)) :=
  zc1 (F_X9_in (p1.toInt64) (1 : Int64) (99 : Int64)) (fun v1 => if v1 = 0 then (some ((-3 : Int32), m_row)) else (rd 95 m_row (18 : Int32) (fun v4 => if (v4 + p1) ≤ (9999 : Int32) then (zl2 (fun x7 h8 ag9 => if p1 ≤ x7 then (rd 95 h8 (18 : Int32) (fun v11 => some (v11, h8))) else (zc1 (F_X9_hour m_yards m_seepMany m_many h8 m_tides m_seeps m_paces (0 : Int32)) (fun g13 => bd (x7 + (1 : Int32)) (fun v15 => ag9 v15 g13)))) FU (0 : Int32) m_row) else (some ((-5 : Int32), m_row)))))
abbrev rm_X9_go : Room := { frames := 3, cells := 0, slots := 0, locals := 69 }
theorem kd_X9_go : yX9_go.cls = RX9 ∧ yX9_go.cls ≠ "java/lang/invoke/MethodHandle" ∧ yX9_go.cls ≠ "java/lang/invoke/VarHandle" ∧ (parseMethodDescriptor yX9_go.desc).map (fun d => d.parameters.length) = some 1 := by decide +kernel
set_option maxRecDepth 100000 in
set_option maxHeartbeats 4000000 in
theorem A_X9_go (l : Launch) (D : va_G) (cB cI cJ cZ : ClassId) (ad : (Nat → Nat) × (Nat → Nat)) (a_m a_m_row a_m_isKept a_m_text a_m_read a_m_tides a_m_seeps a_m_kinds a_m_paces a_m_ears a_m_hearers a_m_chosen a_m_dues a_m_sights : Nat) (m_length : Int32) (m_readMany : Int32) (m_yards : Int32) (m_seepMany : Int32) (m_many : Int32) (m_at : Int32) (m_place : Int32) (m_end : Int32) (m_readYards : Int32) (m_readSeeps : Int32) (m_readChildren : Int32) (m_chosenMany : Int32) (m_seenMany : Int32) (m_row : Nat → Int32) (m_tides : Nat → Int32) (m_seeps : Nat → Int32) (m_paces : Nat → Int32) (p1 : Int32) (r : Int32) (m_row' : Nat → Int32) (hF : F_X9_go m_yards m_seepMany m_many m_row m_tides m_seeps m_paces p1 = some (r, m_row')) : kM l yX9_go (Cond.code yX9_go cX9_go 3 (some .int) :: W0) rm_X9_go D (kT cB cI cJ cZ) ad [.ref a_m, .int p1] [(a_m, .inr (9, [.ref a_m_row, .ref a_m_isKept, .ref a_m_text, .int m_length, .ref a_m_read, .int m_readMany, .int m_yards, .ref a_m_tides, .ref a_m_seeps, .int m_seepMany, .ref a_m_kinds, .ref a_m_paces, .ref a_m_ears, .int m_many, .int m_at, .int m_place, .int m_end, .int m_readYards, .int m_readSeeps, .int m_readChildren, .ref a_m_hearers, .ref a_m_chosen, .int m_chosenMany, .ref a_m_dues, .ref a_m_sights, .int m_seenMany])), (a_m_row, .inl (cI, 95, .inl m_row)), (a_m_tides, .inl (cI, 12, .inl m_tides)), (a_m_seeps, .inl (cI, 18, .inl m_seeps)), (a_m_paces, .inl (cI, 5, .inl m_paces))] (some (.int r)) [(a_m, .inr (9, [.ref a_m_row, .ref a_m_isKept, .ref a_m_text, .int m_length, .ref a_m_read, .int m_readMany, .int m_yards, .ref a_m_tides, .ref a_m_seeps, .int m_seepMany, .ref a_m_kinds, .ref a_m_paces, .ref a_m_ears, .int m_many, .int m_at, .int m_place, .int m_end, .int m_readYards, .int m_readSeeps, .int m_readChildren, .ref a_m_hearers, .ref a_m_chosen, .int m_chosenMany, .ref a_m_dues, .ref a_m_sights, .int m_seenMany])), (a_m_row, .inl (cI, 95, .inl (m_row'))), (a_m_tides, .inl (cI, 12, .inl m_tides)), (a_m_seeps, .inl (cI, 18, .inl m_seeps)), (a_m_paces, .inl (cI, 5, .inl m_paces))] := by
  unfold F_X9_go at hF
  refine kStart (lv := [(0, .ref a_m), (1, .int p1)]) (own := "DikeWatchModel") (plainFor_of_name (by decide)) rfl (Nat.le_of_ble_eq_true rfl) rfl ?_
  intro p e s m args below meth c A Q ls hQ C hx hb hw hl
  refine lv_iload_n hx hb (dq dt_X9_go 0 rfl) rfl (lv_at hl 1 rfl) ?_
  refine lv_i2l (v := (p1.toInt64)) hx hb (dq dt_X9_go 1 rfl) rfl ?_
  refine lv_lconst (v := (1 : Int64)) hx hb (dq dt_X9_go 2 rfl) (by decide) ?_
  refine lv_ldc2 (v := (99 : Int64)) hx hb C.2.2.2.2.2.1 (C.2.2.2.2.2.2.1 _ q5_65) (dq dt_X9_go 3 rfl) ?_
  obtain ⟨v1, hr2, hF⟩ := zc1_ hF
  refine kCallSP C hw (A_X9_in l D cB cI cJ cZ ad (p1.toInt64) (1 : Int64) (99 : Int64) v1 hr2) (va_cwS 3 C.2.2.2.2.2.2.1 (w0_S0 q4_182 q4_180 q4_181 q1_10) rfl rfl rfl ke_X9_in ⟨Nat.le_of_ble_eq_true rfl, Nat.le_of_ble_eq_true rfl⟩) hl.1 rfl rfl rfl (Nat.le_of_ble_eq_true rfl) ⟨Nat.le_of_ble_eq_true rfl, Nat.le_of_ble_eq_true rfl⟩ (dq dt_X9_go 4 rfl) (fun H locs hw => ?_)
  refine lv_if_ne (tgt := 15) hx hb (dq dt_X9_go 5 rfl) (by decide) (fun c3 => ?_) (fun c3 => ?_)
  · replace hF := if_f c3 hF
    refine lv_aload_n hx hb (dq dt_X9_go 8 rfl) rfl (lv_at hl 0 rfl) ?_
    refine kGet (ci := 9) C in_X9 hw 0 rfl rfl 0 (by decide) (C.2.2.2.2.2.2.1 _ q4_95) rfl rfl (dq dt_X9_go 9 rfl) ?_
    refine lv_bipush (v := (18 : Int32)) hx hb (dq dt_X9_go 10 rfl) (by decide) ?_
    obtain ⟨v4, ev4, hi5, hF⟩ := rd_ hF
    refine kIald C hw 1 1 rfl rfl hi5 ev4 (dq dt_X9_go 11 rfl) ?_
    refine lv_iload_n hx hb (dq dt_X9_go 12 rfl) rfl (lv_at hl 1 rfl) ?_
    refine lv_iadd hx hb (dq dt_X9_go 13 rfl) ?_
    refine lv_sipush (v := (9999 : Int32)) hx hb (dq dt_X9_go 14 rfl) (by decide) ?_
    refine lv_icmp_le (tgt := 33) hx hb (dq dt_X9_go 15 rfl) (by decide) (fun c6 => ?_) (fun c6 => ?_)
    · replace hF := if_t c6 hF
      refine lv_iconst (v := (0 : Int32)) hx hb (dq dt_X9_go 18 rfl) (by decide) ?_
      refine lv_istore_n (lv' := [(2, .int (0 : Int32)), (0, .ref a_m), (1, .int p1)]) hx hb (dq dt_X9_go 19 rfl) rfl hl (by decide) rfl (fun ls hl => ?_)
      obtain ⟨K9, hK09, hK9, hF⟩ := zl2_ hF
      have L9 : ∀ (n : Nat) (x7 : Int32) (h8 : Nat → Int32), K9 n x7 h8 = some (r, m_row') → ∀ (H : Heap) (locs : List Loc) (ls : Array Slot), kW D A s.heap [(a_m, .inr (9, [.ref a_m_row, .ref a_m_isKept, .ref a_m_text, .int m_length, .ref a_m_read, .int m_readMany, .int m_yards, .ref a_m_tides, .ref a_m_seeps, .int m_seepMany, .ref a_m_kinds, .ref a_m_paces, .ref a_m_ears, .int m_many, .int m_at, .int m_place, .int m_end, .int m_readYards, .int m_readSeeps, .int m_readChildren, .ref a_m_hearers, .ref a_m_chosen, .int m_chosenMany, .ref a_m_dues, .ref a_m_sights, .int m_seenMany])), (a_m_row, .inl (cI, 95, .inl h8)), (a_m_tides, .inl (cI, 12, .inl m_tides)), (a_m_seeps, .inl (cI, 18, .inl m_seeps)), (a_m_paces, .inl (cI, 5, .inl m_paces))] H locs → lv_has ls 3 [(0, .ref a_m), (1, .int p1), (2, .int x7)] → W p l e rm_X9_go s m args below meth c H locs 0 0 Q (F0 m 35 ls []) := by
        intro n
        induction n with
        | zero => intro x7 h8 hF; exact (lp_no (hK09 x7 h8) hF).elim
        | succ n ih9 =>
          intro x7 h8 hF H locs ls hw hl
          replace hF := hK9 n x7 h8 hF
          refine lv_iload_n hx hb (dq dt_X9_go 20 rfl) rfl (lv_at hl 2 rfl) ?_
          refine lv_iload_n hx hb (dq dt_X9_go 21 rfl) rfl (lv_at hl 1 rfl) ?_
          refine lv_icmp_ge (tgt := 51) hx hb (dq dt_X9_go 22 rfl) (by decide) (fun c10 => ?_) (fun c10 => ?_)
          · replace hF := if_t c10 hF
            refine lv_aload_n hx hb (dq dt_X9_go 28 rfl) rfl (lv_at hl 0 rfl) ?_
            refine kGet (ci := 9) C in_X9 hw 0 rfl rfl 0 (by decide) (C.2.2.2.2.2.2.1 _ q4_95) rfl rfl (dq dt_X9_go 29 rfl) ?_
            refine lv_bipush (v := (18 : Int32)) hx hb (dq dt_X9_go 30 rfl) (by decide) ?_
            obtain ⟨v11, ev11, hi12, hF⟩ := rd_ hF
            refine kIald C hw 1 1 rfl rfl hi12 ev11 (dq dt_X9_go 31 rfl) ?_
            cases hF
            exact kRetI hQ C hw (dq dt_X9_go 32 rfl)
          · replace hF := if_f c10 hF
            refine lv_aload_n hx hb (dq dt_X9_go 23 rfl) rfl (lv_at hl 0 rfl) ?_
            refine lv_iconst (v := (0 : Int32)) hx hb (dq dt_X9_go 24 rfl) (by decide) ?_
            obtain ⟨g13, hr14, hF⟩ := zc1_ hF
            refine kCallV (ws2 := [(a_m, .inr (9, [.ref a_m_row, .ref a_m_isKept, .ref a_m_text, .int m_length, .ref a_m_read, .int m_readMany, .int m_yards, .ref a_m_tides, .ref a_m_seeps, .int m_seepMany, .ref a_m_kinds, .ref a_m_paces, .ref a_m_ears, .int m_many, .int m_at, .int m_place, .int m_end, .int m_readYards, .int m_readSeeps, .int m_readChildren, .ref a_m_hearers, .ref a_m_chosen, .int m_chosenMany, .ref a_m_dues, .ref a_m_sights, .int m_seenMany])), (a_m_row, .inl (cI, 95, .inl g13)), (a_m_tides, .inl (cI, 12, .inl m_tides)), (a_m_seeps, .inl (cI, 18, .inl m_seeps)), (a_m_paces, .inl (cI, 5, .inl m_paces))]) C hw (A_X9_hour l D cB cI cJ cZ ad a_m a_m_row a_m_isKept a_m_text a_m_read a_m_tides a_m_seeps a_m_kinds a_m_paces a_m_ears a_m_hearers a_m_chosen a_m_dues a_m_sights m_length m_readMany m_yards m_seepMany m_many m_at m_place m_end m_readYards m_readSeeps m_readChildren m_chosenMany m_seenMany h8 m_tides m_seeps m_paces (0 : Int32) g13 hr14) (cwV 1 C.2.2.2.2.2.2.1 (w0_V0 q5_69 q5_66 q5_68 (ws0 38 rfl) q1_10) rfl rfl rfl kd_X9_hour ⟨Nat.le_of_ble_eq_true rfl, Nat.le_of_ble_eq_true rfl⟩) [0, 1, 2, 3, 4] rfl rfl rfl rfl 0 9 rfl rfl hl.1 rfl rfl rfl (Nat.le_of_ble_eq_true rfl) ⟨Nat.le_of_ble_eq_true rfl, Nat.le_of_ble_eq_true rfl⟩ (dq dt_X9_go 25 rfl) (fun H locs hw => ?_)
            obtain ⟨v15, ev15, hF⟩ := bd_ hF
            refine lv_iinc (v := v15) (lv' := [(2, .int v15), (0, .ref a_m), (1, .int p1)]) hx hb (dq dt_X9_go 26 rfl) hl (k := 2) rfl ev15.symm (by decide) rfl (fun ls hl => ?_)
            refine lv_goto (tgt := 35) hx hb (dq dt_X9_go 27 rfl) (by decide) ?_
            exact ih9 v15 g13 hF _ _ _ hw (lv_sub hl [1, 2, 0] rfl)
      exact L9 _ (0 : Int32) m_row hF _ _ _ hw (lv_sub hl [1, 2, 0] rfl)
    · replace hF := if_f c6 hF
      refine lv_bipush (v := (-5 : Int32)) hx hb (dq dt_X9_go 16 rfl) (by decide) ?_
      cases hF
      exact kRetI hQ C hw (dq dt_X9_go 17 rfl)
  · replace hF := if_t c3 hF
    refine lv_bipush (v := (-3 : Int32)) hx hb (dq dt_X9_go 6 rfl) (by decide) ?_
    cases hF
    exact kRetI hQ C hw (dq dt_X9_go 7 rfl)
def F_X9_fill (m_yards : Int32) (m_seepMany : Int32) (m_many : Int32) (m_row : Nat → Int32) (m_seeps : Nat → Int32) (m_kinds : Nat → Int32) (m_ears : Nat → Int32) (p1 : Int32) : Option (Int32 × (Nat → Int32)) :=
  zc1 (F_X9_isYard m_yards p1) (fun v1 => if v1 = 0 then (some ((-2 : Int32), m_row)) else (zl3 (fun x4 x5 x6 ag7 => if m_seepMany ≤ x6 then (zl3 (fun x9 x10 h11 ag12 => zj0 (rd 95 h11 (6 : Int32) (fun v14 => bd (v14 ||| x5) (fun v16 => wr 95 (6 : Int32) (upd h11 ((6 : Int32)).toNatClampNeg v16) (fun g17 => some (x9, g17))))) (fun K13 => if m_many ≤ x10 then (K13) else (if x4 = 0 then (K13) else (zc1 (F_X9_tells m_yards m_seepMany h11 m_seeps m_kinds m_ears x10) (fun v21 => zj1 (fun y23 => bd ((13 : Int32) + x10) (fun v25 => rd 95 h11 v25 (fun v26 => zj1 (fun y28 => bd (v26 + y28) (fun v30 => wr 95 v25 (upd h11 (v25).toNatClampNeg v30) (fun g31 => zj1 (fun y33 => bd (x9 + y33) (fun v35 => bd (x10 + (1 : Int32)) (fun v36 => ag12 v35 v36 g31))) (fun K34 => if y23 ≤ 0 then (K34 (0 : Int32)) else (K34 y23))))) (fun K29 => if y23 ≤ 0 then (K29 (0 : Int32)) else (K29 y23))))) (fun K24 => if v21 = (-1 : Int32) then (K24 (0 : Int32)) else (zc1 (F_X9_far v21 p1) (fun v40 => K24 ((9 : Int32) - v40))))))))) FU (0 : Int32) (0 : Int32) m_row) else (rd 18 m_seeps ((3 : Int32) * x6) (fun v42 => zj1 (fun y44 => zj1 (fun y46 => zj1 (fun y48 => bd (x5 ||| y48) (fun v50 => bd (x6 + (1 : Int32)) (fun v51 => ag7 y46 v50 v51))) (fun K49 => if y44 = 0 then (K49 (0 : Int32)) else (K49 ((1 : Int32) <<< (x6 &&& 31))))) (fun K47 => if x4 = 0 then (if y44 = 0 then (K47 (0 : Int32)) else (rd 95 m_row x6 (fun v55 => if (100 : Int32) ≤ v55 then (K47 (0 : Int32)) else (K47 (1 : Int32))))) else (K47 (1 : Int32)))) (fun K45 => if v42 = p1 then (rd 95 m_row (6 : Int32) (fun v59 => zc1 (F_X9_has v59 x6) (fun v61 => if v61 = 0 then (K45 (1 : Int32)) else (K45 (0 : Int32))))) else (K45 (0 : Int32)))))) FU (0 : Int32) (0 : Int32) (0 : Int32)))
abbrev rm_X9_fill : Room := { frames := 4, cells := 0, slots := 0, locals := 95 }
theorem kd_X9_fill : yX9_fill.cls = RX9 ∧ yX9_fill.cls ≠ "java/lang/invoke/MethodHandle" ∧ yX9_fill.cls ≠ "java/lang/invoke/VarHandle" ∧ (parseMethodDescriptor yX9_fill.desc).map (fun d => d.parameters.length) = some 1 := by decide +kernel
set_option maxRecDepth 100000 in
set_option maxHeartbeats 4000000 in
theorem A_X9_fill (l : Launch) (D : va_G) (cB cI cJ cZ : ClassId) (ad : (Nat → Nat) × (Nat → Nat)) (a_m a_m_row a_m_isKept a_m_text a_m_read a_m_tides a_m_seeps a_m_kinds a_m_paces a_m_ears a_m_hearers a_m_chosen a_m_dues a_m_sights : Nat) (m_length : Int32) (m_readMany : Int32) (m_yards : Int32) (m_seepMany : Int32) (m_many : Int32) (m_at : Int32) (m_place : Int32) (m_end : Int32) (m_readYards : Int32) (m_readSeeps : Int32) (m_readChildren : Int32) (m_chosenMany : Int32) (m_seenMany : Int32) (m_row : Nat → Int32) (m_seeps : Nat → Int32) (m_kinds : Nat → Int32) (m_ears : Nat → Int32) (p1 : Int32) (r : Int32) (m_row' : Nat → Int32) (hF : F_X9_fill m_yards m_seepMany m_many m_row m_seeps m_kinds m_ears p1 = some (r, m_row')) : kM l yX9_fill (Cond.code yX9_fill cX9_fill 8 (some .int) :: W0) rm_X9_fill D (kT cB cI cJ cZ) ad [.ref a_m, .int p1] [(a_m, .inr (9, [.ref a_m_row, .ref a_m_isKept, .ref a_m_text, .int m_length, .ref a_m_read, .int m_readMany, .int m_yards, .ref a_m_tides, .ref a_m_seeps, .int m_seepMany, .ref a_m_kinds, .ref a_m_paces, .ref a_m_ears, .int m_many, .int m_at, .int m_place, .int m_end, .int m_readYards, .int m_readSeeps, .int m_readChildren, .ref a_m_hearers, .ref a_m_chosen, .int m_chosenMany, .ref a_m_dues, .ref a_m_sights, .int m_seenMany])), (a_m_row, .inl (cI, 95, .inl m_row)), (a_m_seeps, .inl (cI, 18, .inl m_seeps)), (a_m_kinds, .inl (cI, 5, .inl m_kinds)), (a_m_ears, .inl (cI, 5, .inl m_ears))] (some (.int r)) [(a_m, .inr (9, [.ref a_m_row, .ref a_m_isKept, .ref a_m_text, .int m_length, .ref a_m_read, .int m_readMany, .int m_yards, .ref a_m_tides, .ref a_m_seeps, .int m_seepMany, .ref a_m_kinds, .ref a_m_paces, .ref a_m_ears, .int m_many, .int m_at, .int m_place, .int m_end, .int m_readYards, .int m_readSeeps, .int m_readChildren, .ref a_m_hearers, .ref a_m_chosen, .int m_chosenMany, .ref a_m_dues, .ref a_m_sights, .int m_seenMany])), (a_m_row, .inl (cI, 95, .inl (m_row'))), (a_m_seeps, .inl (cI, 18, .inl m_seeps)), (a_m_kinds, .inl (cI, 5, .inl m_kinds)), (a_m_ears, .inl (cI, 5, .inl m_ears))] := by
  unfold F_X9_fill at hF
  refine kStart (lv := [(0, .ref a_m), (1, .int p1)]) (own := "DikeWatchModel") (plainFor_of_name (by decide)) rfl (Nat.le_of_ble_eq_true rfl) rfl ?_
  intro p e s m args below meth c A Q ls hQ C hx hb hw hl
  refine lv_aload_n hx hb (dq dt_X9_fill 0 rfl) rfl (lv_at hl 0 rfl) ?_
  refine lv_iload_n hx hb (dq dt_X9_fill 1 rfl) rfl (lv_at hl 1 rfl) ?_
  obtain ⟨v1, hr2, hF⟩ := zc1_ hF
  refine kCallVR C hw (A_X9_isYard l D cB cI cJ cZ ad a_m a_m_row a_m_isKept a_m_text a_m_read a_m_tides a_m_seeps a_m_kinds a_m_paces a_m_ears a_m_hearers a_m_chosen a_m_dues a_m_sights m_length m_readMany m_yards m_seepMany m_many m_at m_place m_end m_readYards m_readSeeps m_readChildren m_chosenMany m_seenMany p1 v1 hr2) (cwV 1 C.2.2.2.2.2.2.1 (w0_V0 q5_81 q5_78 q5_80 (ws0 40 rfl) q1_10) rfl rfl rfl kd_X9_isYard ⟨Nat.le_of_ble_eq_true rfl, Nat.le_of_ble_eq_true rfl⟩) [0] rfl rfl 0 9 rfl rfl hl.1 rfl rfl rfl (Nat.le_of_ble_eq_true rfl) ⟨Nat.le_of_ble_eq_true rfl, Nat.le_of_ble_eq_true rfl⟩ (dq dt_X9_fill 2 rfl) (fun H locs hw => ?_)
  refine lv_if_ne (tgt := 11) hx hb (dq dt_X9_fill 3 rfl) (by decide) (fun c3 => ?_) (fun c3 => ?_)
  · replace hF := if_f c3 hF
    refine lv_iconst (v := (0 : Int32)) hx hb (dq dt_X9_fill 6 rfl) (by decide) ?_
    refine lv_istore_n (lv' := [(2, .int (0 : Int32)), (0, .ref a_m), (1, .int p1)]) hx hb (dq dt_X9_fill 7 rfl) rfl hl (by decide) rfl (fun ls hl => ?_)
    refine lv_iconst (v := (0 : Int32)) hx hb (dq dt_X9_fill 8 rfl) (by decide) ?_
    refine lv_istore_n (lv' := [(3, .int (0 : Int32)), (2, .int (0 : Int32)), (0, .ref a_m), (1, .int p1)]) hx hb (dq dt_X9_fill 9 rfl) rfl hl (by decide) rfl (fun ls hl => ?_)
    refine lv_iconst (v := (0 : Int32)) hx hb (dq dt_X9_fill 10 rfl) (by decide) ?_
    refine lv_istore (lv' := [(4, .int (0 : Int32)), (3, .int (0 : Int32)), (2, .int (0 : Int32)), (0, .ref a_m), (1, .int p1)]) hx hb (dq dt_X9_fill 11 rfl) hl (by decide) rfl (fun ls hl => ?_)
    refine lv_iconst (v := (0 : Int32)) hx hb (dq dt_X9_fill 12 rfl) (by decide) ?_
    refine lv_istore (lv' := [(5, .int (0 : Int32)), (4, .int (0 : Int32)), (3, .int (0 : Int32)), (2, .int (0 : Int32)), (0, .ref a_m), (1, .int p1)]) hx hb (dq dt_X9_fill 13 rfl) hl (by decide) rfl (fun ls hl => ?_)
    obtain ⟨K7, hK07, hK7, hF⟩ := zl3_ hF
    have L7 : ∀ (n : Nat) (x4 : Int32) (x5 : Int32) (x6 : Int32), K7 n x4 x5 x6 = some (r, m_row') → ∀ (H : Heap) (locs : List Loc) (ls : Array Slot), kW D A s.heap [(a_m, .inr (9, [.ref a_m_row, .ref a_m_isKept, .ref a_m_text, .int m_length, .ref a_m_read, .int m_readMany, .int m_yards, .ref a_m_tides, .ref a_m_seeps, .int m_seepMany, .ref a_m_kinds, .ref a_m_paces, .ref a_m_ears, .int m_many, .int m_at, .int m_place, .int m_end, .int m_readYards, .int m_readSeeps, .int m_readChildren, .ref a_m_hearers, .ref a_m_chosen, .int m_chosenMany, .ref a_m_dues, .ref a_m_sights, .int m_seenMany])), (a_m_row, .inl (cI, 95, .inl m_row)), (a_m_seeps, .inl (cI, 18, .inl m_seeps)), (a_m_kinds, .inl (cI, 5, .inl m_kinds)), (a_m_ears, .inl (cI, 5, .inl m_ears))] H locs → lv_has ls 8 [(0, .ref a_m), (1, .int p1), (2, .int x4), (3, .int x5), (4, .int (0 : Int32)), (5, .int x6)] → W p l e rm_X9_fill s m args below meth c H locs 0 0 Q (F0 m 21 ls []) := by
      intro n
      induction n with
      | zero => intro x4 x5 x6 hF; exact (lp_no (hK07 x4 x5 x6) hF).elim
      | succ n ih7 =>
        intro x4 x5 x6 hF H locs ls hw hl
        replace hF := hK7 n x4 x5 x6 hF
        refine lv_iload hx hb (dq dt_X9_fill 14 rfl) (lv_at hl 5 rfl) ?_
        refine lv_aload_n hx hb (dq dt_X9_fill 15 rfl) rfl (lv_at hl 0 rfl) ?_
        refine kGet (ci := 9) C in_X9 hw 0 rfl rfl 9 (by decide) (C.2.2.2.2.2.2.1 _ q4_104) rfl rfl (dq dt_X9_fill 16 rfl) ?_
        refine lv_icmp_ge (tgt := 114) hx hb (dq dt_X9_fill 17 rfl) (by decide) (fun c8 => ?_) (fun c8 => ?_)
        · replace hF := if_t c8 hF
          refine lv_iconst (v := (0 : Int32)) hx hb (dq dt_X9_fill 63 rfl) (by decide) ?_
          refine lv_istore (lv' := [(5, .int (0 : Int32)), (0, .ref a_m), (1, .int p1), (2, .int x4), (3, .int x5), (4, .int (0 : Int32))]) hx hb (dq dt_X9_fill 64 rfl) hl (by decide) rfl (fun ls hl => ?_)
          obtain ⟨K12, hK012, hK12, hF⟩ := zl3_ hF
          have L12 : ∀ (n : Nat) (x9 : Int32) (x10 : Int32) (h11 : Nat → Int32), K12 n x9 x10 h11 = some (r, m_row') → ∀ (H : Heap) (locs : List Loc) (ls : Array Slot), kW D A s.heap [(a_m, .inr (9, [.ref a_m_row, .ref a_m_isKept, .ref a_m_text, .int m_length, .ref a_m_read, .int m_readMany, .int m_yards, .ref a_m_tides, .ref a_m_seeps, .int m_seepMany, .ref a_m_kinds, .ref a_m_paces, .ref a_m_ears, .int m_many, .int m_at, .int m_place, .int m_end, .int m_readYards, .int m_readSeeps, .int m_readChildren, .ref a_m_hearers, .ref a_m_chosen, .int m_chosenMany, .ref a_m_dues, .ref a_m_sights, .int m_seenMany])), (a_m_row, .inl (cI, 95, .inl h11)), (a_m_seeps, .inl (cI, 18, .inl m_seeps)), (a_m_kinds, .inl (cI, 5, .inl m_kinds)), (a_m_ears, .inl (cI, 5, .inl m_ears))] H locs → lv_has ls 8 [(0, .ref a_m), (1, .int p1), (2, .int x4), (3, .int x5), (4, .int x9), (5, .int x10)] → W p l e rm_X9_fill s m args below meth c H locs 0 0 Q (F0 m 117 ls []) := by
            intro n
            induction n with
            | zero => intro x9 x10 h11 hF; exact (lp_no (hK012 x9 x10 h11) hF).elim
            | succ n ih12 =>
              intro x9 x10 h11 hF H locs ls hw hl
              replace hF := hK12 n x9 x10 h11 hF
              refine lv_iload hx hb (dq dt_X9_fill 65 rfl) (lv_at hl 5 rfl) ?_
              refine lv_aload_n hx hb (dq dt_X9_fill 66 rfl) rfl (lv_at hl 0 rfl) ?_
              refine kGet (ci := 9) C in_X9 hw 0 rfl rfl 13 (by decide) (C.2.2.2.2.2.2.1 _ q4_108) rfl rfl (dq dt_X9_fill 67 rfl) ?_
              obtain ⟨K13, hK13, hF⟩ := zj0_ hF
              have J13 : K13 = some (r, m_row') → ∀ (H : Heap) (locs : List Loc) (ls : Array Slot), kW D A s.heap [(a_m, .inr (9, [.ref a_m_row, .ref a_m_isKept, .ref a_m_text, .int m_length, .ref a_m_read, .int m_readMany, .int m_yards, .ref a_m_tides, .ref a_m_seeps, .int m_seepMany, .ref a_m_kinds, .ref a_m_paces, .ref a_m_ears, .int m_many, .int m_at, .int m_place, .int m_end, .int m_readYards, .int m_readSeeps, .int m_readChildren, .ref a_m_hearers, .ref a_m_chosen, .int m_chosenMany, .ref a_m_dues, .ref a_m_sights, .int m_seenMany])), (a_m_row, .inl (cI, 95, .inl h11)), (a_m_seeps, .inl (cI, 18, .inl m_seeps)), (a_m_kinds, .inl (cI, 5, .inl m_kinds)), (a_m_ears, .inl (cI, 5, .inl m_ears))] H locs → lv_has ls 8 [(0, .ref a_m), (3, .int x5), (4, .int x9)] → W p l e rm_X9_fill s m args below meth c H locs 0 0 Q (F0 m 205 ls []) := by
                intro hF H locs ls hw hl
                replace hF := hK13 hF
                refine lv_aload_n hx hb (dq dt_X9_fill 110 rfl) rfl (lv_at hl 0 rfl) ?_
                refine kGet (ci := 9) C in_X9 hw 0 rfl rfl 0 (by decide) (C.2.2.2.2.2.2.1 _ q4_95) rfl rfl (dq dt_X9_fill 111 rfl) ?_
                refine lv_bipush (v := (6 : Int32)) hx hb (dq dt_X9_fill 112 rfl) (by decide) ?_
                refine lv_dup2_11 hx hb (dq dt_X9_fill 113 rfl) rfl rfl ?_
                obtain ⟨v14, ev14, hi15, hF⟩ := rd_ hF
                refine kIald C hw 1 1 rfl rfl hi15 ev14 (dq dt_X9_fill 114 rfl) ?_
                refine lv_iload_n hx hb (dq dt_X9_fill 115 rfl) rfl (lv_at hl 1 rfl) ?_
                refine lv_ior hx hb (dq dt_X9_fill 116 rfl) ?_
                obtain ⟨v16, ev16, hF⟩ := bd_ hF
                refine kNmI ev16 ?_
                obtain ⟨g17, eg17, hi18, hF⟩ := wr_ hF
                refine kIast (ws' := [(a_m, .inr (9, [.ref a_m_row, .ref a_m_isKept, .ref a_m_text, .int m_length, .ref a_m_read, .int m_readMany, .int m_yards, .ref a_m_tides, .ref a_m_seeps, .int m_seepMany, .ref a_m_kinds, .ref a_m_paces, .ref a_m_ears, .int m_many, .int m_at, .int m_place, .int m_end, .int m_readYards, .int m_readSeeps, .int m_readChildren, .ref a_m_hearers, .ref a_m_chosen, .int m_chosenMany, .ref a_m_dues, .ref a_m_sights, .int m_seenMany])), (a_m_row, .inl (cI, 95, .inl g17)), (a_m_seeps, .inl (cI, 18, .inl m_seeps)), (a_m_kinds, .inl (cI, 5, .inl m_kinds)), (a_m_ears, .inl (cI, 5, .inl m_ears))]) C hw 1 1 rfl rfl hi18 eg17 rfl (dq dt_X9_fill 117 rfl) (fun H locs hw => ?_)
                refine lv_iload hx hb (dq dt_X9_fill 118 rfl) (lv_at hl 2 rfl) ?_
                cases hF
                exact kRetI hQ C hw (dq dt_X9_fill 119 rfl)
              refine lv_icmp_ge (tgt := 205) hx hb (dq dt_X9_fill 68 rfl) (by decide) (fun c19 => ?_) (fun c19 => ?_)
              · replace hF := if_t c19 hF
                exact J13 hF _ _ _ hw (lv_sub hl [0, 3, 4] rfl)
              · replace hF := if_f c19 hF
                refine lv_iload_n hx hb (dq dt_X9_fill 69 rfl) rfl (lv_at hl 2 rfl) ?_
                refine lv_if_eq (tgt := 205) hx hb (dq dt_X9_fill 70 rfl) (by decide) (fun c20 => ?_) (fun c20 => ?_)
                · replace hF := if_t c20 hF
                  exact J13 hF _ _ _ hw (lv_sub hl [0, 3, 4] rfl)
                · replace hF := if_f c20 hF
                  refine lv_aload_n hx hb (dq dt_X9_fill 71 rfl) rfl (lv_at hl 0 rfl) ?_
                  refine lv_iload hx hb (dq dt_X9_fill 72 rfl) (lv_at hl 5 rfl) ?_
                  obtain ⟨v21, hr22, hF⟩ := zc1_ hF
                  refine kCallVR C hw (A_X9_tells l D cB cI cJ cZ ad a_m a_m_row a_m_isKept a_m_text a_m_read a_m_tides a_m_seeps a_m_kinds a_m_paces a_m_ears a_m_hearers a_m_chosen a_m_dues a_m_sights m_length m_readMany m_yards m_seepMany m_many m_at m_place m_end m_readYards m_readSeeps m_readChildren m_chosenMany m_seenMany h11 m_seeps m_kinds m_ears x10 v21 hr22) (cwV 1 C.2.2.2.2.2.2.1 (w0_V0 q5_41 q5_38 q5_40 (ws0 35 rfl) q1_10) rfl rfl rfl kd_X9_tells ⟨Nat.le_of_ble_eq_true rfl, Nat.le_of_ble_eq_true rfl⟩) [0, 1, 2, 3, 4] rfl rfl 0 9 rfl rfl hl.1 rfl rfl rfl (Nat.le_of_ble_eq_true rfl) ⟨Nat.le_of_ble_eq_true rfl, Nat.le_of_ble_eq_true rfl⟩ (dq dt_X9_fill 73 rfl) (fun H locs hw => ?_)
                  refine lv_istore (lv' := [(6, .int v21), (0, .ref a_m), (1, .int p1), (2, .int x4), (3, .int x5), (4, .int x9), (5, .int x10)]) hx hb (dq dt_X9_fill 74 rfl) hl (by decide) rfl (fun ls hl => ?_)
                  refine lv_iload hx hb (dq dt_X9_fill 75 rfl) (lv_at hl 0 rfl) ?_
                  refine lv_iconst (v := (-1 : Int32)) hx hb (dq dt_X9_fill 76 rfl) (by decide) ?_
                  obtain ⟨K24, hK24, hF⟩ := zj1_ hF
                  have J24 : ∀ (y23 : Int32), K24 y23 = some (r, m_row') → ∀ (H : Heap) (locs : List Loc) (ls : Array Slot), kW D A s.heap [(a_m, .inr (9, [.ref a_m_row, .ref a_m_isKept, .ref a_m_text, .int m_length, .ref a_m_read, .int m_readMany, .int m_yards, .ref a_m_tides, .ref a_m_seeps, .int m_seepMany, .ref a_m_kinds, .ref a_m_paces, .ref a_m_ears, .int m_many, .int m_at, .int m_place, .int m_end, .int m_readYards, .int m_readSeeps, .int m_readChildren, .ref a_m_hearers, .ref a_m_chosen, .int m_chosenMany, .ref a_m_dues, .ref a_m_sights, .int m_seenMany])), (a_m_row, .inl (cI, 95, .inl h11)), (a_m_seeps, .inl (cI, 18, .inl m_seeps)), (a_m_kinds, .inl (cI, 5, .inl m_kinds)), (a_m_ears, .inl (cI, 5, .inl m_ears))] H locs → lv_has ls 8 [(0, .ref a_m), (1, .int p1), (2, .int x4), (3, .int x5), (4, .int x9), (5, .int x10)] → W p l e rm_X9_fill s m args below meth c H locs 0 0 Q (F0 m 157 ls [.int y23]) := by
                    intro y23 hF H locs ls hw hl
                    replace hF := hK24 y23 hF
                    refine lv_istore (lv' := [(7, .int y23), (0, .ref a_m), (1, .int p1), (2, .int x4), (3, .int x5), (4, .int x9), (5, .int x10)]) hx hb (dq dt_X9_fill 85 rfl) hl (by decide) rfl (fun ls hl => ?_)
                    refine lv_aload_n hx hb (dq dt_X9_fill 86 rfl) rfl (lv_at hl 1 rfl) ?_
                    refine kGet (ci := 9) C in_X9 hw 0 rfl rfl 0 (by decide) (C.2.2.2.2.2.2.1 _ q4_95) rfl rfl (dq dt_X9_fill 87 rfl) ?_
                    refine lv_bipush (v := (13 : Int32)) hx hb (dq dt_X9_fill 88 rfl) (by decide) ?_
                    refine lv_iload hx hb (dq dt_X9_fill 89 rfl) (lv_at hl 6 rfl) ?_
                    refine lv_iadd hx hb (dq dt_X9_fill 90 rfl) ?_
                    obtain ⟨v25, ev25, hF⟩ := bd_ hF
                    refine kNmI ev25 ?_
                    refine lv_dup2_11 hx hb (dq dt_X9_fill 91 rfl) rfl rfl ?_
                    obtain ⟨v26, ev26, hi27, hF⟩ := rd_ hF
                    refine kIald C hw 1 1 rfl rfl hi27 ev26 (dq dt_X9_fill 92 rfl) ?_
                    refine lv_iload hx hb (dq dt_X9_fill 93 rfl) (lv_at hl 0 rfl) ?_
                    obtain ⟨K29, hK29, hF⟩ := zj1_ hF
                    have J29 : ∀ (y28 : Int32), K29 y28 = some (r, m_row') → ∀ (H : Heap) (locs : List Loc) (ls : Array Slot), kW D A s.heap [(a_m, .inr (9, [.ref a_m_row, .ref a_m_isKept, .ref a_m_text, .int m_length, .ref a_m_read, .int m_readMany, .int m_yards, .ref a_m_tides, .ref a_m_seeps, .int m_seepMany, .ref a_m_kinds, .ref a_m_paces, .ref a_m_ears, .int m_many, .int m_at, .int m_place, .int m_end, .int m_readYards, .int m_readSeeps, .int m_readChildren, .ref a_m_hearers, .ref a_m_chosen, .int m_chosenMany, .ref a_m_dues, .ref a_m_sights, .int m_seenMany])), (a_m_row, .inl (cI, 95, .inl h11)), (a_m_seeps, .inl (cI, 18, .inl m_seeps)), (a_m_kinds, .inl (cI, 5, .inl m_kinds)), (a_m_ears, .inl (cI, 5, .inl m_ears))] H locs → lv_has ls 8 [(0, .ref a_m), (1, .int p1), (2, .int x4), (3, .int x5), (4, .int x9), (5, .int x10), (7, .int y23)] → W p l e rm_X9_fill s m args below meth c H locs 0 0 Q (F0 m 181 ls [.int y28, .int v26, .int v25, .ref a_m_row]) := by
                      intro y28 hF H locs ls hw hl
                      replace hF := hK29 y28 hF
                      refine lv_iadd hx hb (dq dt_X9_fill 98 rfl) ?_
                      obtain ⟨v30, ev30, hF⟩ := bd_ hF
                      refine kNmI ev30 ?_
                      obtain ⟨g31, eg31, hi32, hF⟩ := wr_ hF
                      refine kIast (ws' := [(a_m, .inr (9, [.ref a_m_row, .ref a_m_isKept, .ref a_m_text, .int m_length, .ref a_m_read, .int m_readMany, .int m_yards, .ref a_m_tides, .ref a_m_seeps, .int m_seepMany, .ref a_m_kinds, .ref a_m_paces, .ref a_m_ears, .int m_many, .int m_at, .int m_place, .int m_end, .int m_readYards, .int m_readSeeps, .int m_readChildren, .ref a_m_hearers, .ref a_m_chosen, .int m_chosenMany, .ref a_m_dues, .ref a_m_sights, .int m_seenMany])), (a_m_row, .inl (cI, 95, .inl g31)), (a_m_seeps, .inl (cI, 18, .inl m_seeps)), (a_m_kinds, .inl (cI, 5, .inl m_kinds)), (a_m_ears, .inl (cI, 5, .inl m_ears))]) C hw 1 1 rfl rfl hi32 eg31 rfl (dq dt_X9_fill 99 rfl) (fun H locs hw => ?_)
                      refine lv_iload hx hb (dq dt_X9_fill 100 rfl) (lv_at hl 4 rfl) ?_
                      refine lv_iload hx hb (dq dt_X9_fill 101 rfl) (lv_at hl 6 rfl) ?_
                      obtain ⟨K34, hK34, hF⟩ := zj1_ hF
                      have J34 : ∀ (y33 : Int32), K34 y33 = some (r, m_row') → ∀ (H : Heap) (locs : List Loc) (ls : Array Slot), kW D A s.heap [(a_m, .inr (9, [.ref a_m_row, .ref a_m_isKept, .ref a_m_text, .int m_length, .ref a_m_read, .int m_readMany, .int m_yards, .ref a_m_tides, .ref a_m_seeps, .int m_seepMany, .ref a_m_kinds, .ref a_m_paces, .ref a_m_ears, .int m_many, .int m_at, .int m_place, .int m_end, .int m_readYards, .int m_readSeeps, .int m_readChildren, .ref a_m_hearers, .ref a_m_chosen, .int m_chosenMany, .ref a_m_dues, .ref a_m_sights, .int m_seenMany])), (a_m_row, .inl (cI, 95, .inl g31)), (a_m_seeps, .inl (cI, 18, .inl m_seeps)), (a_m_kinds, .inl (cI, 5, .inl m_kinds)), (a_m_ears, .inl (cI, 5, .inl m_ears))] H locs → lv_has ls 8 [(0, .ref a_m), (1, .int p1), (2, .int x4), (3, .int x5), (5, .int x10)] → W p l e rm_X9_fill s m args below meth c H locs 0 0 Q (F0 m 196 ls [.int y33, .int x9]) := by
                        intro y33 hF H locs ls hw hl
                        replace hF := hK34 y33 hF
                        refine lv_iadd hx hb (dq dt_X9_fill 106 rfl) ?_
                        obtain ⟨v35, ev35, hF⟩ := bd_ hF
                        refine kNmI ev35 ?_
                        refine lv_istore (lv' := [(4, .int v35), (0, .ref a_m), (1, .int p1), (2, .int x4), (3, .int x5), (5, .int x10)]) hx hb (dq dt_X9_fill 107 rfl) hl (by decide) rfl (fun ls hl => ?_)
                        obtain ⟨v36, ev36, hF⟩ := bd_ hF
                        refine lv_iinc (v := v36) (lv' := [(5, .int v36), (4, .int v35), (0, .ref a_m), (1, .int p1), (2, .int x4), (3, .int x5)]) hx hb (dq dt_X9_fill 108 rfl) hl (k := 5) rfl ev36.symm (by decide) rfl (fun ls hl => ?_)
                        refine lv_goto (tgt := 117) hx hb (dq dt_X9_fill 109 rfl) (by decide) ?_
                        exact ih12 v35 v36 g31 hF _ _ _ hw (lv_sub hl [2, 3, 4, 5, 1, 0] rfl)
                      refine lv_if_le (tgt := 195) hx hb (dq dt_X9_fill 102 rfl) (by decide) (fun c37 => ?_) (fun c37 => ?_)
                      · replace hF := if_t c37 hF
                        refine lv_iconst (v := (0 : Int32)) hx hb (dq dt_X9_fill 105 rfl) (by decide) ?_
                        exact J34 (0 : Int32) hF _ _ _ hw (lv_sub hl [0, 1, 2, 3, 5] rfl)
                      · replace hF := if_f c37 hF
                        refine lv_iload hx hb (dq dt_X9_fill 103 rfl) (lv_at hl 6 rfl) ?_
                        refine lv_goto (tgt := 196) hx hb (dq dt_X9_fill 104 rfl) (by decide) ?_
                        exact J34 y23 hF _ _ _ hw (lv_sub hl [0, 1, 2, 3, 5] rfl)
                    refine lv_if_le (tgt := 180) hx hb (dq dt_X9_fill 94 rfl) (by decide) (fun c38 => ?_) (fun c38 => ?_)
                    · replace hF := if_t c38 hF
                      refine lv_iconst (v := (0 : Int32)) hx hb (dq dt_X9_fill 97 rfl) (by decide) ?_
                      exact J29 (0 : Int32) hF _ _ _ hw (lv_sub hl [1, 2, 3, 4, 5, 6, 0] rfl)
                    · replace hF := if_f c38 hF
                      refine lv_iload hx hb (dq dt_X9_fill 95 rfl) (lv_at hl 0 rfl) ?_
                      refine lv_goto (tgt := 181) hx hb (dq dt_X9_fill 96 rfl) (by decide) ?_
                      exact J29 y23 hF _ _ _ hw (lv_sub hl [1, 2, 3, 4, 5, 6, 0] rfl)
                  refine lv_icmp_ne (tgt := 148) hx hb (dq dt_X9_fill 77 rfl) (by decide) (fun c39 => ?_) (fun c39 => ?_)
                  · replace hF := if_f c39 hF
                    refine lv_bipush (v := (9 : Int32)) hx hb (dq dt_X9_fill 80 rfl) (by decide) ?_
                    refine lv_iload hx hb (dq dt_X9_fill 81 rfl) (lv_at hl 0 rfl) ?_
                    refine lv_iload_n hx hb (dq dt_X9_fill 82 rfl) rfl (lv_at hl 2 rfl) ?_
                    obtain ⟨v40, hr41, hF⟩ := zc1_ hF
                    refine kCallSP C hw (A_X9_far l D cB cI cJ cZ ad v21 p1 v40 hr41) (va_cwS 2 C.2.2.2.2.2.2.1 (w0_S0 q5_55 q5_53 q5_54 q1_10) rfl rfl rfl ke_X9_far ⟨Nat.le_of_ble_eq_true rfl, Nat.le_of_ble_eq_true rfl⟩) hl.1 rfl rfl rfl (Nat.le_of_ble_eq_true rfl) ⟨Nat.le_of_ble_eq_true rfl, Nat.le_of_ble_eq_true rfl⟩ (dq dt_X9_fill 83 rfl) (fun H locs hw => ?_)
                    refine lv_isub hx hb (dq dt_X9_fill 84 rfl) ?_
                    exact J24 ((9 : Int32) - v40) hF _ _ _ hw (lv_sub hl [1, 2, 3, 4, 5, 6] rfl)
                  · replace hF := if_t c39 hF
                    refine lv_iconst (v := (0 : Int32)) hx hb (dq dt_X9_fill 78 rfl) (by decide) ?_
                    refine lv_goto (tgt := 157) hx hb (dq dt_X9_fill 79 rfl) (by decide) ?_
                    exact J24 (0 : Int32) hF _ _ _ hw (lv_sub hl [1, 2, 3, 4, 5, 6] rfl)
          exact L12 _ (0 : Int32) (0 : Int32) m_row hF _ _ _ hw (lv_sub hl [1, 2, 3, 4, 5, 0] rfl)
        · replace hF := if_f c8 hF
          refine lv_aload_n hx hb (dq dt_X9_fill 18 rfl) rfl (lv_at hl 0 rfl) ?_
          refine kGet (ci := 9) C in_X9 hw 0 rfl rfl 8 (by decide) (C.2.2.2.2.2.2.1 _ q4_103) rfl rfl (dq dt_X9_fill 19 rfl) ?_
          refine lv_iconst (v := (3 : Int32)) hx hb (dq dt_X9_fill 20 rfl) (by decide) ?_
          refine lv_iload hx hb (dq dt_X9_fill 21 rfl) (lv_at hl 5 rfl) ?_
          refine lv_imul hx hb (dq dt_X9_fill 22 rfl) ?_
          obtain ⟨v42, ev42, hi43, hF⟩ := rd_ hF
          refine kIald C hw 2 1 rfl rfl hi43 ev42 (dq dt_X9_fill 23 rfl) ?_
          refine lv_iload_n hx hb (dq dt_X9_fill 24 rfl) rfl (lv_at hl 1 rfl) ?_
          obtain ⟨K45, hK45, hF⟩ := zj1_ hF
          have J45 : ∀ (y44 : Int32), K45 y44 = some (r, m_row') → ∀ (H : Heap) (locs : List Loc) (ls : Array Slot), kW D A s.heap [(a_m, .inr (9, [.ref a_m_row, .ref a_m_isKept, .ref a_m_text, .int m_length, .ref a_m_read, .int m_readMany, .int m_yards, .ref a_m_tides, .ref a_m_seeps, .int m_seepMany, .ref a_m_kinds, .ref a_m_paces, .ref a_m_ears, .int m_many, .int m_at, .int m_place, .int m_end, .int m_readYards, .int m_readSeeps, .int m_readChildren, .ref a_m_hearers, .ref a_m_chosen, .int m_chosenMany, .ref a_m_dues, .ref a_m_sights, .int m_seenMany])), (a_m_row, .inl (cI, 95, .inl m_row)), (a_m_seeps, .inl (cI, 18, .inl m_seeps)), (a_m_kinds, .inl (cI, 5, .inl m_kinds)), (a_m_ears, .inl (cI, 5, .inl m_ears))] H locs → lv_has ls 8 [(0, .ref a_m), (1, .int p1), (2, .int x4), (3, .int x5), (4, .int (0 : Int32)), (5, .int x6)] → W p l e rm_X9_fill s m args below meth c H locs 0 0 Q (F0 m 63 ls [.int y44]) := by
            intro y44 hF H locs ls hw hl
            replace hF := hK45 y44 hF
            refine lv_istore (lv' := [(6, .int y44), (0, .ref a_m), (1, .int p1), (2, .int x4), (3, .int x5), (4, .int (0 : Int32)), (5, .int x6)]) hx hb (dq dt_X9_fill 36 rfl) hl (by decide) rfl (fun ls hl => ?_)
            refine lv_iload_n hx hb (dq dt_X9_fill 37 rfl) rfl (lv_at hl 3 rfl) ?_
            obtain ⟨K47, hK47, hF⟩ := zj1_ hF
            have J47 : ∀ (y46 : Int32), K47 y46 = some (r, m_row') → ∀ (H : Heap) (locs : List Loc) (ls : Array Slot), kW D A s.heap [(a_m, .inr (9, [.ref a_m_row, .ref a_m_isKept, .ref a_m_text, .int m_length, .ref a_m_read, .int m_readMany, .int m_yards, .ref a_m_tides, .ref a_m_seeps, .int m_seepMany, .ref a_m_kinds, .ref a_m_paces, .ref a_m_ears, .int m_many, .int m_at, .int m_place, .int m_end, .int m_readYards, .int m_readSeeps, .int m_readChildren, .ref a_m_hearers, .ref a_m_chosen, .int m_chosenMany, .ref a_m_dues, .ref a_m_sights, .int m_seenMany])), (a_m_row, .inl (cI, 95, .inl m_row)), (a_m_seeps, .inl (cI, 18, .inl m_seeps)), (a_m_kinds, .inl (cI, 5, .inl m_kinds)), (a_m_ears, .inl (cI, 5, .inl m_ears))] H locs → lv_has ls 8 [(0, .ref a_m), (1, .int p1), (3, .int x5), (4, .int (0 : Int32)), (5, .int x6), (6, .int y44)] → W p l e rm_X9_fill s m args below meth c H locs 0 0 Q (F0 m 91 ls [.int y46]) := by
              intro y46 hF H locs ls hw hl
              replace hF := hK47 y46 hF
              refine lv_istore_n (lv' := [(2, .int y46), (0, .ref a_m), (1, .int p1), (3, .int x5), (4, .int (0 : Int32)), (5, .int x6), (6, .int y44)]) hx hb (dq dt_X9_fill 50 rfl) rfl hl (by decide) rfl (fun ls hl => ?_)
              refine lv_iload_n hx hb (dq dt_X9_fill 51 rfl) rfl (lv_at hl 3 rfl) ?_
              refine lv_iload hx hb (dq dt_X9_fill 52 rfl) (lv_at hl 6 rfl) ?_
              obtain ⟨K49, hK49, hF⟩ := zj1_ hF
              have J49 : ∀ (y48 : Int32), K49 y48 = some (r, m_row') → ∀ (H : Heap) (locs : List Loc) (ls : Array Slot), kW D A s.heap [(a_m, .inr (9, [.ref a_m_row, .ref a_m_isKept, .ref a_m_text, .int m_length, .ref a_m_read, .int m_readMany, .int m_yards, .ref a_m_tides, .ref a_m_seeps, .int m_seepMany, .ref a_m_kinds, .ref a_m_paces, .ref a_m_ears, .int m_many, .int m_at, .int m_place, .int m_end, .int m_readYards, .int m_readSeeps, .int m_readChildren, .ref a_m_hearers, .ref a_m_chosen, .int m_chosenMany, .ref a_m_dues, .ref a_m_sights, .int m_seenMany])), (a_m_row, .inl (cI, 95, .inl m_row)), (a_m_seeps, .inl (cI, 18, .inl m_seeps)), (a_m_kinds, .inl (cI, 5, .inl m_kinds)), (a_m_ears, .inl (cI, 5, .inl m_ears))] H locs → lv_has ls 8 [(0, .ref a_m), (1, .int p1), (2, .int y46), (4, .int (0 : Int32)), (5, .int x6)] → W p l e rm_X9_fill s m args below meth c H locs 0 0 Q (F0 m 106 ls [.int y48, .int x5]) := by
                intro y48 hF H locs ls hw hl
                replace hF := hK49 y48 hF
                refine lv_ior hx hb (dq dt_X9_fill 59 rfl) ?_
                obtain ⟨v50, ev50, hF⟩ := bd_ hF
                refine kNmI ev50 ?_
                refine lv_istore_n (lv' := [(3, .int v50), (0, .ref a_m), (1, .int p1), (2, .int y46), (4, .int (0 : Int32)), (5, .int x6)]) hx hb (dq dt_X9_fill 60 rfl) rfl hl (by decide) rfl (fun ls hl => ?_)
                obtain ⟨v51, ev51, hF⟩ := bd_ hF
                refine lv_iinc (v := v51) (lv' := [(5, .int v51), (3, .int v50), (0, .ref a_m), (1, .int p1), (2, .int y46), (4, .int (0 : Int32))]) hx hb (dq dt_X9_fill 61 rfl) hl (k := 5) rfl ev51.symm (by decide) rfl (fun ls hl => ?_)
                refine lv_goto (tgt := 21) hx hb (dq dt_X9_fill 62 rfl) (by decide) ?_
                exact ih7 y46 v50 v51 hF _ _ _ hw (lv_sub hl [2, 3, 4, 1, 5, 0] rfl)
              refine lv_if_eq (tgt := 105) hx hb (dq dt_X9_fill 53 rfl) (by decide) (fun c52 => ?_) (fun c52 => ?_)
              · replace hF := if_t c52 hF
                refine lv_iconst (v := (0 : Int32)) hx hb (dq dt_X9_fill 58 rfl) (by decide) ?_
                exact J49 (0 : Int32) hF _ _ _ hw (lv_sub hl [1, 2, 0, 4, 5] rfl)
              · replace hF := if_f c52 hF
                refine lv_iconst (v := (1 : Int32)) hx hb (dq dt_X9_fill 54 rfl) (by decide) ?_
                refine lv_iload hx hb (dq dt_X9_fill 55 rfl) (lv_at hl 5 rfl) ?_
                refine lv_ishl hx hb (dq dt_X9_fill 56 rfl) ?_
                refine lv_goto (tgt := 106) hx hb (dq dt_X9_fill 57 rfl) (by decide) ?_
                exact J49 ((1 : Int32) <<< (x6 &&& 31)) hF _ _ _ hw (lv_sub hl [1, 2, 0, 4, 5] rfl)
            refine lv_if_ne (tgt := 86) hx hb (dq dt_X9_fill 38 rfl) (by decide) (fun c53 => ?_) (fun c53 => ?_)
            · replace hF := if_f c53 hF
              refine lv_iconst (v := (1 : Int32)) hx hb (dq dt_X9_fill 47 rfl) (by decide) ?_
              refine lv_goto (tgt := 91) hx hb (dq dt_X9_fill 48 rfl) (by decide) ?_
              exact J47 (1 : Int32) hF _ _ _ hw (lv_sub hl [1, 2, 4, 5, 6, 0] rfl)
            · replace hF := if_t c53 hF
              refine lv_iload hx hb (dq dt_X9_fill 39 rfl) (lv_at hl 0 rfl) ?_
              refine lv_if_eq (tgt := 90) hx hb (dq dt_X9_fill 40 rfl) (by decide) (fun c54 => ?_) (fun c54 => ?_)
              · replace hF := if_t c54 hF
                refine lv_iconst (v := (0 : Int32)) hx hb (dq dt_X9_fill 49 rfl) (by decide) ?_
                exact J47 (0 : Int32) hF _ _ _ hw (lv_sub hl [1, 2, 4, 5, 6, 0] rfl)
              · replace hF := if_f c54 hF
                refine lv_aload_n hx hb (dq dt_X9_fill 41 rfl) rfl (lv_at hl 1 rfl) ?_
                refine kGet (ci := 9) C in_X9 hw 0 rfl rfl 0 (by decide) (C.2.2.2.2.2.2.1 _ q4_95) rfl rfl (dq dt_X9_fill 42 rfl) ?_
                refine lv_iload hx hb (dq dt_X9_fill 43 rfl) (lv_at hl 6 rfl) ?_
                obtain ⟨v55, ev55, hi56, hF⟩ := rd_ hF
                refine kIald C hw 1 1 rfl rfl hi56 ev55 (dq dt_X9_fill 44 rfl) ?_
                refine lv_bipush (v := (100 : Int32)) hx hb (dq dt_X9_fill 45 rfl) (by decide) ?_
                refine lv_icmp_ge (tgt := 90) hx hb (dq dt_X9_fill 46 rfl) (by decide) (fun c57 => ?_) (fun c57 => ?_)
                · replace hF := if_t c57 hF
                  refine lv_iconst (v := (0 : Int32)) hx hb (dq dt_X9_fill 49 rfl) (by decide) ?_
                  exact J47 (0 : Int32) hF _ _ _ hw (lv_sub hl [1, 2, 4, 5, 6, 0] rfl)
                · replace hF := if_f c57 hF
                  refine lv_iconst (v := (1 : Int32)) hx hb (dq dt_X9_fill 47 rfl) (by decide) ?_
                  refine lv_goto (tgt := 91) hx hb (dq dt_X9_fill 48 rfl) (by decide) ?_
                  exact J47 (1 : Int32) hF _ _ _ hw (lv_sub hl [1, 2, 4, 5, 6, 0] rfl)
          refine lv_icmp_ne (tgt := 62) hx hb (dq dt_X9_fill 25 rfl) (by decide) (fun c58 => ?_) (fun c58 => ?_)
          · replace hF := if_f c58 hF
            refine lv_iconst (v := (0 : Int32)) hx hb (dq dt_X9_fill 35 rfl) (by decide) ?_
            exact J45 (0 : Int32) hF _ _ _ hw (lv_sub hl [0, 1, 2, 3, 4, 5] rfl)
          · replace hF := if_t c58 hF
            refine lv_aload_n hx hb (dq dt_X9_fill 26 rfl) rfl (lv_at hl 0 rfl) ?_
            refine kGet (ci := 9) C in_X9 hw 0 rfl rfl 0 (by decide) (C.2.2.2.2.2.2.1 _ q4_95) rfl rfl (dq dt_X9_fill 27 rfl) ?_
            refine lv_bipush (v := (6 : Int32)) hx hb (dq dt_X9_fill 28 rfl) (by decide) ?_
            obtain ⟨v59, ev59, hi60, hF⟩ := rd_ hF
            refine kIald C hw 1 1 rfl rfl hi60 ev59 (dq dt_X9_fill 29 rfl) ?_
            refine lv_iload hx hb (dq dt_X9_fill 30 rfl) (lv_at hl 5 rfl) ?_
            obtain ⟨v61, hr62, hF⟩ := zc1_ hF
            refine kCallSP C hw (A_X9_has l D cB cI cJ cZ ad v59 x6 v61 hr62) (va_cwS 2 C.2.2.2.2.2.2.1 (w0_S0 q5_52 q5_50 q5_51 q1_10) rfl rfl rfl ke_X9_has ⟨Nat.le_of_ble_eq_true rfl, Nat.le_of_ble_eq_true rfl⟩) hl.1 rfl rfl rfl (Nat.le_of_ble_eq_true rfl) ⟨Nat.le_of_ble_eq_true rfl, Nat.le_of_ble_eq_true rfl⟩ (dq dt_X9_fill 31 rfl) (fun H locs hw => ?_)
            refine lv_if_ne (tgt := 62) hx hb (dq dt_X9_fill 32 rfl) (by decide) (fun c63 => ?_) (fun c63 => ?_)
            · replace hF := if_f c63 hF
              refine lv_iconst (v := (0 : Int32)) hx hb (dq dt_X9_fill 35 rfl) (by decide) ?_
              exact J45 (0 : Int32) hF _ _ _ hw (lv_sub hl [0, 1, 2, 3, 4, 5] rfl)
            · replace hF := if_t c63 hF
              refine lv_iconst (v := (1 : Int32)) hx hb (dq dt_X9_fill 33 rfl) (by decide) ?_
              refine lv_goto (tgt := 63) hx hb (dq dt_X9_fill 34 rfl) (by decide) ?_
              exact J45 (1 : Int32) hF _ _ _ hw (lv_sub hl [0, 1, 2, 3, 4, 5] rfl)
    exact L7 _ (0 : Int32) (0 : Int32) (0 : Int32) hF _ _ _ hw (lv_sub hl [4, 5, 3, 2, 1, 0] rfl)
  · replace hF := if_t c3 hF
    refine lv_bipush (v := (-2 : Int32)) hx hb (dq dt_X9_fill 4 rfl) (by decide) ?_
    cases hF
    exact kRetI hQ C hw (dq dt_X9_fill 5 rfl)
def F_X9_keep (m_row : Nat → Int32) (m_isKept : Nat → Int32) (p1 : Int32) : Option (Int32 × (Nat → Int32) × (Nat → Int32)) :=
  zc1 (F_X9_in (p1.toInt64) (0 : Int64) (1 : Int64)) (fun v1 => if v1 = 0 then (some ((-2 : Int32), m_row, m_isKept)) else (bd ((19 : Int32) * ((1 : Int32) + p1)) (fun v4 => zc1 (F_X9_copy m_row (0 : Int32) v4) (fun g5 => wr 2 p1 (upd m_isKept (p1).toNatClampNeg (vp_nar .boolean (1 : Int32))) (fun g7 => rd 95 g5 (18 : Int32) (fun v9 => some (v9, g5, g7)))))))
abbrev rm_X9_keep : Room := { frames := 1, cells := 0, slots := 0, locals := 25 }
theorem kd_X9_keep : yX9_keep.cls = RX9 ∧ yX9_keep.cls ≠ "java/lang/invoke/MethodHandle" ∧ yX9_keep.cls ≠ "java/lang/invoke/VarHandle" ∧ (parseMethodDescriptor yX9_keep.desc).map (fun d => d.parameters.length) = some 1 := by decide +kernel
set_option maxRecDepth 100000 in
set_option maxHeartbeats 4000000 in
theorem A_X9_keep (l : Launch) (D : va_G) (cB cI cJ cZ : ClassId) (ad : (Nat → Nat) × (Nat → Nat)) (a_m a_m_row a_m_isKept a_m_text a_m_read a_m_tides a_m_seeps a_m_kinds a_m_paces a_m_ears a_m_hearers a_m_chosen a_m_dues a_m_sights : Nat) (m_length : Int32) (m_readMany : Int32) (m_yards : Int32) (m_seepMany : Int32) (m_many : Int32) (m_at : Int32) (m_place : Int32) (m_end : Int32) (m_readYards : Int32) (m_readSeeps : Int32) (m_readChildren : Int32) (m_chosenMany : Int32) (m_seenMany : Int32) (m_row : Nat → Int32) (m_isKept : Nat → Int32) (p1 : Int32) (r : Int32) (m_row' : Nat → Int32) (m_isKept' : Nat → Int32) (hF : F_X9_keep m_row m_isKept p1 = some (r, m_row', m_isKept')) : kM l yX9_keep (Cond.code yX9_keep cX9_keep 2 (some .int) :: W0) rm_X9_keep D (kT cB cI cJ cZ) ad [.ref a_m, .int p1] [(a_m, .inr (9, [.ref a_m_row, .ref a_m_isKept, .ref a_m_text, .int m_length, .ref a_m_read, .int m_readMany, .int m_yards, .ref a_m_tides, .ref a_m_seeps, .int m_seepMany, .ref a_m_kinds, .ref a_m_paces, .ref a_m_ears, .int m_many, .int m_at, .int m_place, .int m_end, .int m_readYards, .int m_readSeeps, .int m_readChildren, .ref a_m_hearers, .ref a_m_chosen, .int m_chosenMany, .ref a_m_dues, .ref a_m_sights, .int m_seenMany])), (a_m_row, .inl (cI, 95, .inl m_row)), (a_m_isKept, .inl (cZ, 2, .inl m_isKept))] (some (.int r)) [(a_m, .inr (9, [.ref a_m_row, .ref a_m_isKept, .ref a_m_text, .int m_length, .ref a_m_read, .int m_readMany, .int m_yards, .ref a_m_tides, .ref a_m_seeps, .int m_seepMany, .ref a_m_kinds, .ref a_m_paces, .ref a_m_ears, .int m_many, .int m_at, .int m_place, .int m_end, .int m_readYards, .int m_readSeeps, .int m_readChildren, .ref a_m_hearers, .ref a_m_chosen, .int m_chosenMany, .ref a_m_dues, .ref a_m_sights, .int m_seenMany])), (a_m_row, .inl (cI, 95, .inl (m_row'))), (a_m_isKept, .inl (cZ, 2, .inl (m_isKept')))] := by
  unfold F_X9_keep at hF
  refine kStart (lv := [(0, .ref a_m), (1, .int p1)]) (own := "DikeWatchModel") (plainFor_of_name (by decide)) rfl (Nat.le_of_ble_eq_true rfl) rfl ?_
  intro p e s m args below meth c A Q ls hQ C hx hb hw hl
  refine lv_iload_n hx hb (dq dt_X9_keep 0 rfl) rfl (lv_at hl 1 rfl) ?_
  refine lv_i2l (v := (p1.toInt64)) hx hb (dq dt_X9_keep 1 rfl) rfl ?_
  refine lv_lconst (v := (0 : Int64)) hx hb (dq dt_X9_keep 2 rfl) (by decide) ?_
  refine lv_lconst (v := (1 : Int64)) hx hb (dq dt_X9_keep 3 rfl) (by decide) ?_
  obtain ⟨v1, hr2, hF⟩ := zc1_ hF
  refine kCallSP C hw (A_X9_in l D cB cI cJ cZ ad (p1.toInt64) (0 : Int64) (1 : Int64) v1 hr2) (va_cwS 3 C.2.2.2.2.2.2.1 (w0_S0 q4_182 q4_180 q4_181 q1_10) rfl rfl rfl ke_X9_in ⟨Nat.le_of_ble_eq_true rfl, Nat.le_of_ble_eq_true rfl⟩) hl.1 rfl rfl rfl (Nat.le_of_ble_eq_true rfl) ⟨Nat.le_of_ble_eq_true rfl, Nat.le_of_ble_eq_true rfl⟩ (dq dt_X9_keep 4 rfl) (fun H locs hw => ?_)
  refine lv_if_ne (tgt := 13) hx hb (dq dt_X9_keep 5 rfl) (by decide) (fun c3 => ?_) (fun c3 => ?_)
  · replace hF := if_f c3 hF
    refine lv_aload_n hx hb (dq dt_X9_keep 8 rfl) rfl (lv_at hl 0 rfl) ?_
    refine lv_iconst (v := (0 : Int32)) hx hb (dq dt_X9_keep 9 rfl) (by decide) ?_
    refine lv_bipush (v := (19 : Int32)) hx hb (dq dt_X9_keep 10 rfl) (by decide) ?_
    refine lv_iconst (v := (1 : Int32)) hx hb (dq dt_X9_keep 11 rfl) (by decide) ?_
    refine lv_iload_n hx hb (dq dt_X9_keep 12 rfl) rfl (lv_at hl 1 rfl) ?_
    refine lv_iadd hx hb (dq dt_X9_keep 13 rfl) ?_
    refine lv_imul hx hb (dq dt_X9_keep 14 rfl) ?_
    obtain ⟨v4, ev4, hF⟩ := bd_ hF
    refine kNmI ev4 ?_
    obtain ⟨g5, hr6, hF⟩ := zc1_ hF
    refine kCallV (ws2 := [(a_m, .inr (9, [.ref a_m_row, .ref a_m_isKept, .ref a_m_text, .int m_length, .ref a_m_read, .int m_readMany, .int m_yards, .ref a_m_tides, .ref a_m_seeps, .int m_seepMany, .ref a_m_kinds, .ref a_m_paces, .ref a_m_ears, .int m_many, .int m_at, .int m_place, .int m_end, .int m_readYards, .int m_readSeeps, .int m_readChildren, .ref a_m_hearers, .ref a_m_chosen, .int m_chosenMany, .ref a_m_dues, .ref a_m_sights, .int m_seenMany])), (a_m_row, .inl (cI, 95, .inl g5)), (a_m_isKept, .inl (cZ, 2, .inl m_isKept))]) C hw (A_X9_copy l D cB cI cJ cZ ad a_m a_m_row a_m_isKept a_m_text a_m_read a_m_tides a_m_seeps a_m_kinds a_m_paces a_m_ears a_m_hearers a_m_chosen a_m_dues a_m_sights m_length m_readMany m_yards m_seepMany m_many m_at m_place m_end m_readYards m_readSeeps m_readChildren m_chosenMany m_seenMany m_row (0 : Int32) v4 g5 hr6) (cwV 2 C.2.2.2.2.2.2.1 (w0_V0 q5_12 q5_9 q5_11 (ws0 31 rfl) q1_10) rfl rfl rfl kd_X9_copy ⟨Nat.le_of_ble_eq_true rfl, Nat.le_of_ble_eq_true rfl⟩) [0, 1] rfl rfl rfl rfl 0 9 rfl rfl hl.1 rfl rfl rfl (Nat.le_of_ble_eq_true rfl) ⟨Nat.le_of_ble_eq_true rfl, Nat.le_of_ble_eq_true rfl⟩ (dq dt_X9_keep 15 rfl) (fun H locs hw => ?_)
    refine lv_aload_n hx hb (dq dt_X9_keep 16 rfl) rfl (lv_at hl 0 rfl) ?_
    refine kGet (ci := 9) C in_X9 hw 0 rfl rfl 1 (by decide) (C.2.2.2.2.2.2.1 _ q4_96) rfl rfl (dq dt_X9_keep 17 rfl) ?_
    refine lv_iload_n hx hb (dq dt_X9_keep 18 rfl) rfl (lv_at hl 1 rfl) ?_
    refine lv_iconst (v := (1 : Int32)) hx hb (dq dt_X9_keep 19 rfl) (by decide) ?_
    obtain ⟨g7, eg7, hi8, hF⟩ := wr_ hF
    refine kZast (ws' := [(a_m, .inr (9, [.ref a_m_row, .ref a_m_isKept, .ref a_m_text, .int m_length, .ref a_m_read, .int m_readMany, .int m_yards, .ref a_m_tides, .ref a_m_seeps, .int m_seepMany, .ref a_m_kinds, .ref a_m_paces, .ref a_m_ears, .int m_many, .int m_at, .int m_place, .int m_end, .int m_readYards, .int m_readSeeps, .int m_readChildren, .ref a_m_hearers, .ref a_m_chosen, .int m_chosenMany, .ref a_m_dues, .ref a_m_sights, .int m_seenMany])), (a_m_row, .inl (cI, 95, .inl g5)), (a_m_isKept, .inl (cZ, 2, .inl g7))]) C hw 2 3 rfl rfl hi8 eg7 rfl (dq dt_X9_keep 20 rfl) (fun H locs hw => ?_)
    refine lv_aload_n hx hb (dq dt_X9_keep 21 rfl) rfl (lv_at hl 0 rfl) ?_
    refine kGet (ci := 9) C in_X9 hw 0 rfl rfl 0 (by decide) (C.2.2.2.2.2.2.1 _ q4_95) rfl rfl (dq dt_X9_keep 22 rfl) ?_
    refine lv_bipush (v := (18 : Int32)) hx hb (dq dt_X9_keep 23 rfl) (by decide) ?_
    obtain ⟨v9, ev9, hi10, hF⟩ := rd_ hF
    refine kIald C hw 1 1 rfl rfl hi10 ev9 (dq dt_X9_keep 24 rfl) ?_
    cases hF
    exact kRetI hQ C hw (dq dt_X9_keep 25 rfl)
  · replace hF := if_t c3 hF
    refine lv_bipush (v := (-2 : Int32)) hx hb (dq dt_X9_keep 6 rfl) (by decide) ?_
    cases hF
    exact kRetI hQ C hw (dq dt_X9_keep 7 rfl)
def F_X9_back (m_row : Nat → Int32) (m_isKept : Nat → Int32) (p1 : Int32) : Option (Int32 × (Nat → Int32)) :=
  zc1 (F_X9_in (p1.toInt64) (0 : Int64) (1 : Int64)) (fun v1 => if v1 = 0 then (some ((-2 : Int32), m_row)) else (rd 2 m_isKept p1 (fun v4 => if v4 = 0 then (some ((-4 : Int32), m_row)) else (zc1 (F_X9_copy m_row ((19 : Int32) * ((1 : Int32) + p1)) (0 : Int32)) (fun g7 => rd 95 g7 (18 : Int32) (fun v9 => some (v9, g7)))))))
abbrev rm_X9_back : Room := { frames := 1, cells := 0, slots := 0, locals := 25 }
theorem kd_X9_back : yX9_back.cls = RX9 ∧ yX9_back.cls ≠ "java/lang/invoke/MethodHandle" ∧ yX9_back.cls ≠ "java/lang/invoke/VarHandle" ∧ (parseMethodDescriptor yX9_back.desc).map (fun d => d.parameters.length) = some 1 := by decide +kernel
set_option maxRecDepth 100000 in
set_option maxHeartbeats 4000000 in
theorem A_X9_back (l : Launch) (D : va_G) (cB cI cJ cZ : ClassId) (ad : (Nat → Nat) × (Nat → Nat)) (a_m a_m_row a_m_isKept a_m_text a_m_read a_m_tides a_m_seeps a_m_kinds a_m_paces a_m_ears a_m_hearers a_m_chosen a_m_dues a_m_sights : Nat) (m_length : Int32) (m_readMany : Int32) (m_yards : Int32) (m_seepMany : Int32) (m_many : Int32) (m_at : Int32) (m_place : Int32) (m_end : Int32) (m_readYards : Int32) (m_readSeeps : Int32) (m_readChildren : Int32) (m_chosenMany : Int32) (m_seenMany : Int32) (m_row : Nat → Int32) (m_isKept : Nat → Int32) (p1 : Int32) (r : Int32) (m_row' : Nat → Int32) (hF : F_X9_back m_row m_isKept p1 = some (r, m_row')) : kM l yX9_back (Cond.code yX9_back cX9_back 2 (some .int) :: W0) rm_X9_back D (kT cB cI cJ cZ) ad [.ref a_m, .int p1] [(a_m, .inr (9, [.ref a_m_row, .ref a_m_isKept, .ref a_m_text, .int m_length, .ref a_m_read, .int m_readMany, .int m_yards, .ref a_m_tides, .ref a_m_seeps, .int m_seepMany, .ref a_m_kinds, .ref a_m_paces, .ref a_m_ears, .int m_many, .int m_at, .int m_place, .int m_end, .int m_readYards, .int m_readSeeps, .int m_readChildren, .ref a_m_hearers, .ref a_m_chosen, .int m_chosenMany, .ref a_m_dues, .ref a_m_sights, .int m_seenMany])), (a_m_row, .inl (cI, 95, .inl m_row)), (a_m_isKept, .inl (cZ, 2, .inl m_isKept))] (some (.int r)) [(a_m, .inr (9, [.ref a_m_row, .ref a_m_isKept, .ref a_m_text, .int m_length, .ref a_m_read, .int m_readMany, .int m_yards, .ref a_m_tides, .ref a_m_seeps, .int m_seepMany, .ref a_m_kinds, .ref a_m_paces, .ref a_m_ears, .int m_many, .int m_at, .int m_place, .int m_end, .int m_readYards, .int m_readSeeps, .int m_readChildren, .ref a_m_hearers, .ref a_m_chosen, .int m_chosenMany, .ref a_m_dues, .ref a_m_sights, .int m_seenMany])), (a_m_row, .inl (cI, 95, .inl (m_row'))), (a_m_isKept, .inl (cZ, 2, .inl m_isKept))] := by
  unfold F_X9_back at hF
  refine kStart (lv := [(0, .ref a_m), (1, .int p1)]) (own := "DikeWatchModel") (plainFor_of_name (by decide)) rfl (Nat.le_of_ble_eq_true rfl) rfl ?_
  intro p e s m args below meth c A Q ls hQ C hx hb hw hl
  refine lv_iload_n hx hb (dq dt_X9_back 0 rfl) rfl (lv_at hl 1 rfl) ?_
  refine lv_i2l (v := (p1.toInt64)) hx hb (dq dt_X9_back 1 rfl) rfl ?_
  refine lv_lconst (v := (0 : Int64)) hx hb (dq dt_X9_back 2 rfl) (by decide) ?_
  refine lv_lconst (v := (1 : Int64)) hx hb (dq dt_X9_back 3 rfl) (by decide) ?_
  obtain ⟨v1, hr2, hF⟩ := zc1_ hF
  refine kCallSP C hw (A_X9_in l D cB cI cJ cZ ad (p1.toInt64) (0 : Int64) (1 : Int64) v1 hr2) (va_cwS 3 C.2.2.2.2.2.2.1 (w0_S0 q4_182 q4_180 q4_181 q1_10) rfl rfl rfl ke_X9_in ⟨Nat.le_of_ble_eq_true rfl, Nat.le_of_ble_eq_true rfl⟩) hl.1 rfl rfl rfl (Nat.le_of_ble_eq_true rfl) ⟨Nat.le_of_ble_eq_true rfl, Nat.le_of_ble_eq_true rfl⟩ (dq dt_X9_back 4 rfl) (fun H locs hw => ?_)
  refine lv_if_ne (tgt := 13) hx hb (dq dt_X9_back 5 rfl) (by decide) (fun c3 => ?_) (fun c3 => ?_)
  · replace hF := if_f c3 hF
    refine lv_aload_n hx hb (dq dt_X9_back 8 rfl) rfl (lv_at hl 0 rfl) ?_
    refine kGet (ci := 9) C in_X9 hw 0 rfl rfl 1 (by decide) (C.2.2.2.2.2.2.1 _ q4_96) rfl rfl (dq dt_X9_back 9 rfl) ?_
    refine lv_iload_n hx hb (dq dt_X9_back 10 rfl) rfl (lv_at hl 1 rfl) ?_
    obtain ⟨v4, ev4, hi5, hF⟩ := rd_ hF
    refine kZald C hw 2 3 rfl rfl hi5 ev4 (dq dt_X9_back 11 rfl) ?_
    refine lv_if_ne (tgt := 25) hx hb (dq dt_X9_back 12 rfl) (by decide) (fun c6 => ?_) (fun c6 => ?_)
    · replace hF := if_f c6 hF
      refine lv_aload_n hx hb (dq dt_X9_back 15 rfl) rfl (lv_at hl 0 rfl) ?_
      refine lv_bipush (v := (19 : Int32)) hx hb (dq dt_X9_back 16 rfl) (by decide) ?_
      refine lv_iconst (v := (1 : Int32)) hx hb (dq dt_X9_back 17 rfl) (by decide) ?_
      refine lv_iload_n hx hb (dq dt_X9_back 18 rfl) rfl (lv_at hl 1 rfl) ?_
      refine lv_iadd hx hb (dq dt_X9_back 19 rfl) ?_
      refine lv_imul hx hb (dq dt_X9_back 20 rfl) ?_
      refine lv_iconst (v := (0 : Int32)) hx hb (dq dt_X9_back 21 rfl) (by decide) ?_
      obtain ⟨g7, hr8, hF⟩ := zc1_ hF
      refine kCallV (ws2 := [(a_m, .inr (9, [.ref a_m_row, .ref a_m_isKept, .ref a_m_text, .int m_length, .ref a_m_read, .int m_readMany, .int m_yards, .ref a_m_tides, .ref a_m_seeps, .int m_seepMany, .ref a_m_kinds, .ref a_m_paces, .ref a_m_ears, .int m_many, .int m_at, .int m_place, .int m_end, .int m_readYards, .int m_readSeeps, .int m_readChildren, .ref a_m_hearers, .ref a_m_chosen, .int m_chosenMany, .ref a_m_dues, .ref a_m_sights, .int m_seenMany])), (a_m_row, .inl (cI, 95, .inl g7)), (a_m_isKept, .inl (cZ, 2, .inl m_isKept))]) C hw (A_X9_copy l D cB cI cJ cZ ad a_m a_m_row a_m_isKept a_m_text a_m_read a_m_tides a_m_seeps a_m_kinds a_m_paces a_m_ears a_m_hearers a_m_chosen a_m_dues a_m_sights m_length m_readMany m_yards m_seepMany m_many m_at m_place m_end m_readYards m_readSeeps m_readChildren m_chosenMany m_seenMany m_row ((19 : Int32) * ((1 : Int32) + p1)) (0 : Int32) g7 hr8) (cwV 2 C.2.2.2.2.2.2.1 (w0_V0 q5_12 q5_9 q5_11 (ws0 31 rfl) q1_10) rfl rfl rfl kd_X9_copy ⟨Nat.le_of_ble_eq_true rfl, Nat.le_of_ble_eq_true rfl⟩) [0, 1] rfl rfl rfl rfl 0 9 rfl rfl hl.1 rfl rfl rfl (Nat.le_of_ble_eq_true rfl) ⟨Nat.le_of_ble_eq_true rfl, Nat.le_of_ble_eq_true rfl⟩ (dq dt_X9_back 22 rfl) (fun H locs hw => ?_)
      refine lv_aload_n hx hb (dq dt_X9_back 23 rfl) rfl (lv_at hl 0 rfl) ?_
      refine kGet (ci := 9) C in_X9 hw 0 rfl rfl 0 (by decide) (C.2.2.2.2.2.2.1 _ q4_95) rfl rfl (dq dt_X9_back 24 rfl) ?_
      refine lv_bipush (v := (18 : Int32)) hx hb (dq dt_X9_back 25 rfl) (by decide) ?_
      obtain ⟨v9, ev9, hi10, hF⟩ := rd_ hF
      refine kIald C hw 1 1 rfl rfl hi10 ev9 (dq dt_X9_back 26 rfl) ?_
      cases hF
      exact kRetI hQ C hw (dq dt_X9_back 27 rfl)
    · replace hF := if_t c6 hF
      refine lv_bipush (v := (-4 : Int32)) hx hb (dq dt_X9_back 13 rfl) (by decide) ?_
      cases hF
      exact kRetI hQ C hw (dq dt_X9_back 14 rfl)
  · replace hF := if_t c3 hF
    refine lv_bipush (v := (-2 : Int32)) hx hb (dq dt_X9_back 6 rfl) (by decide) ?_
    cases hF
    exact kRetI hQ C hw (dq dt_X9_back 7 rfl)
def F_X9_later (m_yards : Int32) (m_seepMany : Int32) (m_many : Int32) (m_row : Nat → Int32) (m_tides : Nat → Int32) (m_seeps : Nat → Int32) (m_kinds : Nat → Int32) (m_paces : Nat → Int32) (m_ears : Nat → Int32) (p1 : Int32) (p2 : Int32) (p3 : Int32) : Option (Int32 × (Nat → Int32)) :=
  zc1 (F_X9_in (p3.toInt64) (0 : Int64) (2 : Int64)) (fun v1 => if v1 = 0 then (some ((-3 : Int32), m_row)) else (zj0 (zc1 (F_X9_in (p2.toInt64) (0 : Int64) (99 : Int64)) (fun v5 => if v5 = 0 then (some ((-3 : Int32), m_row)) else (zc1 (F_X9_copy m_row (0 : Int32) (57 : Int32)) (fun g8 => zl2 (fun x10 h11 ag12 => if p2 ≤ x10 then (if p3 = 0 then (rd 95 h11 ((57 : Int32) + p1) (fun v20 => some (v20, h11))) else (if p3 = (1 : Int32) then (rd 95 h11 ((64 : Int32) + p1) (fun v18 => some (v18, h11))) else (zc1 (F_X9_hears m_seepMany h11 m_seeps m_kinds m_ears (57 : Int32) p1) (fun v16 => some (v16, h11))))) else (zc1 (F_X9_hour m_yards m_seepMany m_many h11 m_tides m_seeps m_paces (57 : Int32)) (fun g22 => bd (x10 + (1 : Int32)) (fun v24 => ag12 v24 g22)))) FU (0 : Int32) g8)))) (fun K4 => if p3 = 0 then (zc1 (F_X9_isSeep m_seepMany p1) (fun v29 => if v29 = 0 then (some ((-2 : Int32), m_row)) else (K4))) else (zc1 (F_X9_isChild m_many p1) (fun v26 => if v26 = 0 then (some ((-2 : Int32), m_row)) else (K4))))))
abbrev rm_X9_later : Room := { frames := 3, cells := 0, slots := 0, locals := 69 }
theorem kd_X9_later : yX9_later.cls = RX9 ∧ yX9_later.cls ≠ "java/lang/invoke/MethodHandle" ∧ yX9_later.cls ≠ "java/lang/invoke/VarHandle" ∧ (parseMethodDescriptor yX9_later.desc).map (fun d => d.parameters.length) = some 3 := by decide +kernel
set_option maxRecDepth 100000 in
set_option maxHeartbeats 4000000 in
theorem A_X9_later (l : Launch) (D : va_G) (cB cI cJ cZ : ClassId) (ad : (Nat → Nat) × (Nat → Nat)) (a_m a_m_row a_m_isKept a_m_text a_m_read a_m_tides a_m_seeps a_m_kinds a_m_paces a_m_ears a_m_hearers a_m_chosen a_m_dues a_m_sights : Nat) (m_length : Int32) (m_readMany : Int32) (m_yards : Int32) (m_seepMany : Int32) (m_many : Int32) (m_at : Int32) (m_place : Int32) (m_end : Int32) (m_readYards : Int32) (m_readSeeps : Int32) (m_readChildren : Int32) (m_chosenMany : Int32) (m_seenMany : Int32) (m_row : Nat → Int32) (m_tides : Nat → Int32) (m_seeps : Nat → Int32) (m_kinds : Nat → Int32) (m_paces : Nat → Int32) (m_ears : Nat → Int32) (p1 : Int32) (p2 : Int32) (p3 : Int32) (r : Int32) (m_row' : Nat → Int32) (hF : F_X9_later m_yards m_seepMany m_many m_row m_tides m_seeps m_kinds m_paces m_ears p1 p2 p3 = some (r, m_row')) : kM l yX9_later (Cond.code yX9_later cX9_later 5 (some .int) :: W0) rm_X9_later D (kT cB cI cJ cZ) ad [.ref a_m, .int p1, .int p2, .int p3] [(a_m, .inr (9, [.ref a_m_row, .ref a_m_isKept, .ref a_m_text, .int m_length, .ref a_m_read, .int m_readMany, .int m_yards, .ref a_m_tides, .ref a_m_seeps, .int m_seepMany, .ref a_m_kinds, .ref a_m_paces, .ref a_m_ears, .int m_many, .int m_at, .int m_place, .int m_end, .int m_readYards, .int m_readSeeps, .int m_readChildren, .ref a_m_hearers, .ref a_m_chosen, .int m_chosenMany, .ref a_m_dues, .ref a_m_sights, .int m_seenMany])), (a_m_row, .inl (cI, 95, .inl m_row)), (a_m_tides, .inl (cI, 12, .inl m_tides)), (a_m_seeps, .inl (cI, 18, .inl m_seeps)), (a_m_kinds, .inl (cI, 5, .inl m_kinds)), (a_m_paces, .inl (cI, 5, .inl m_paces)), (a_m_ears, .inl (cI, 5, .inl m_ears))] (some (.int r)) [(a_m, .inr (9, [.ref a_m_row, .ref a_m_isKept, .ref a_m_text, .int m_length, .ref a_m_read, .int m_readMany, .int m_yards, .ref a_m_tides, .ref a_m_seeps, .int m_seepMany, .ref a_m_kinds, .ref a_m_paces, .ref a_m_ears, .int m_many, .int m_at, .int m_place, .int m_end, .int m_readYards, .int m_readSeeps, .int m_readChildren, .ref a_m_hearers, .ref a_m_chosen, .int m_chosenMany, .ref a_m_dues, .ref a_m_sights, .int m_seenMany])), (a_m_row, .inl (cI, 95, .inl (m_row'))), (a_m_tides, .inl (cI, 12, .inl m_tides)), (a_m_seeps, .inl (cI, 18, .inl m_seeps)), (a_m_kinds, .inl (cI, 5, .inl m_kinds)), (a_m_paces, .inl (cI, 5, .inl m_paces)), (a_m_ears, .inl (cI, 5, .inl m_ears))] := by
  unfold F_X9_later at hF
  refine kStart (lv := [(0, .ref a_m), (1, .int p1), (2, .int p2), (3, .int p3)]) (own := "DikeWatchModel") (plainFor_of_name (by decide)) rfl (Nat.le_of_ble_eq_true rfl) rfl ?_
  intro p e s m args below meth c A Q ls hQ C hx hb hw hl
  refine lv_iload_n hx hb (dq dt_X9_later 0 rfl) rfl (lv_at hl 3 rfl) ?_
  refine lv_i2l (v := (p3.toInt64)) hx hb (dq dt_X9_later 1 rfl) rfl ?_
  refine lv_lconst (v := (0 : Int64)) hx hb (dq dt_X9_later 2 rfl) (by decide) ?_
  refine lv_ldc2 (v := (2 : Int64)) hx hb C.2.2.2.2.2.1 (C.2.2.2.2.2.2.1 _ q5_94) (dq dt_X9_later 3 rfl) ?_
  obtain ⟨v1, hr2, hF⟩ := zc1_ hF
  refine kCallSP C hw (A_X9_in l D cB cI cJ cZ ad (p3.toInt64) (0 : Int64) (2 : Int64) v1 hr2) (va_cwS 3 C.2.2.2.2.2.2.1 (w0_S0 q4_182 q4_180 q4_181 q1_10) rfl rfl rfl ke_X9_in ⟨Nat.le_of_ble_eq_true rfl, Nat.le_of_ble_eq_true rfl⟩) hl.1 rfl rfl rfl (Nat.le_of_ble_eq_true rfl) ⟨Nat.le_of_ble_eq_true rfl, Nat.le_of_ble_eq_true rfl⟩ (dq dt_X9_later 4 rfl) (fun H locs hw => ?_)
  refine lv_if_ne (tgt := 15) hx hb (dq dt_X9_later 5 rfl) (by decide) (fun c3 => ?_) (fun c3 => ?_)
  · replace hF := if_f c3 hF
    refine lv_iload_n hx hb (dq dt_X9_later 8 rfl) rfl (lv_at hl 3 rfl) ?_
    obtain ⟨K4, hK4, hF⟩ := zj0_ hF
    have J4 : K4 = some (r, m_row') → ∀ (H : Heap) (locs : List Loc) (ls : Array Slot), kW D A s.heap [(a_m, .inr (9, [.ref a_m_row, .ref a_m_isKept, .ref a_m_text, .int m_length, .ref a_m_read, .int m_readMany, .int m_yards, .ref a_m_tides, .ref a_m_seeps, .int m_seepMany, .ref a_m_kinds, .ref a_m_paces, .ref a_m_ears, .int m_many, .int m_at, .int m_place, .int m_end, .int m_readYards, .int m_readSeeps, .int m_readChildren, .ref a_m_hearers, .ref a_m_chosen, .int m_chosenMany, .ref a_m_dues, .ref a_m_sights, .int m_seenMany])), (a_m_row, .inl (cI, 95, .inl m_row)), (a_m_tides, .inl (cI, 12, .inl m_tides)), (a_m_seeps, .inl (cI, 18, .inl m_seeps)), (a_m_kinds, .inl (cI, 5, .inl m_kinds)), (a_m_paces, .inl (cI, 5, .inl m_paces)), (a_m_ears, .inl (cI, 5, .inl m_ears))] H locs → lv_has ls 5 [(0, .ref a_m), (1, .int p1), (2, .int p2), (3, .int p3)] → W p l e rm_X9_later s m args below meth c H locs 0 0 Q (F0 m 41 ls []) := by
      intro hF H locs ls hw hl
      replace hF := hK4 hF
      refine lv_iload_n hx hb (dq dt_X9_later 21 rfl) rfl (lv_at hl 2 rfl) ?_
      refine lv_i2l (v := (p2.toInt64)) hx hb (dq dt_X9_later 22 rfl) rfl ?_
      refine lv_lconst (v := (0 : Int64)) hx hb (dq dt_X9_later 23 rfl) (by decide) ?_
      refine lv_ldc2 (v := (99 : Int64)) hx hb C.2.2.2.2.2.1 (C.2.2.2.2.2.2.1 _ q5_65) (dq dt_X9_later 24 rfl) ?_
      obtain ⟨v5, hr6, hF⟩ := zc1_ hF
      refine kCallSP C hw (A_X9_in l D cB cI cJ cZ ad (p2.toInt64) (0 : Int64) (99 : Int64) v5 hr6) (va_cwS 3 C.2.2.2.2.2.2.1 (w0_S0 q4_182 q4_180 q4_181 q1_10) rfl rfl rfl ke_X9_in ⟨Nat.le_of_ble_eq_true rfl, Nat.le_of_ble_eq_true rfl⟩) hl.1 rfl rfl rfl (Nat.le_of_ble_eq_true rfl) ⟨Nat.le_of_ble_eq_true rfl, Nat.le_of_ble_eq_true rfl⟩ (dq dt_X9_later 25 rfl) (fun H locs hw => ?_)
      refine lv_if_ne (tgt := 56) hx hb (dq dt_X9_later 26 rfl) (by decide) (fun c7 => ?_) (fun c7 => ?_)
      · replace hF := if_f c7 hF
        refine lv_aload_n hx hb (dq dt_X9_later 29 rfl) rfl (lv_at hl 0 rfl) ?_
        refine lv_iconst (v := (0 : Int32)) hx hb (dq dt_X9_later 30 rfl) (by decide) ?_
        refine lv_bipush (v := (57 : Int32)) hx hb (dq dt_X9_later 31 rfl) (by decide) ?_
        obtain ⟨g8, hr9, hF⟩ := zc1_ hF
        refine kCallV (ws2 := [(a_m, .inr (9, [.ref a_m_row, .ref a_m_isKept, .ref a_m_text, .int m_length, .ref a_m_read, .int m_readMany, .int m_yards, .ref a_m_tides, .ref a_m_seeps, .int m_seepMany, .ref a_m_kinds, .ref a_m_paces, .ref a_m_ears, .int m_many, .int m_at, .int m_place, .int m_end, .int m_readYards, .int m_readSeeps, .int m_readChildren, .ref a_m_hearers, .ref a_m_chosen, .int m_chosenMany, .ref a_m_dues, .ref a_m_sights, .int m_seenMany])), (a_m_row, .inl (cI, 95, .inl g8)), (a_m_tides, .inl (cI, 12, .inl m_tides)), (a_m_seeps, .inl (cI, 18, .inl m_seeps)), (a_m_kinds, .inl (cI, 5, .inl m_kinds)), (a_m_paces, .inl (cI, 5, .inl m_paces)), (a_m_ears, .inl (cI, 5, .inl m_ears))]) C hw (A_X9_copy l D cB cI cJ cZ ad a_m a_m_row a_m_isKept a_m_text a_m_read a_m_tides a_m_seeps a_m_kinds a_m_paces a_m_ears a_m_hearers a_m_chosen a_m_dues a_m_sights m_length m_readMany m_yards m_seepMany m_many m_at m_place m_end m_readYards m_readSeeps m_readChildren m_chosenMany m_seenMany m_row (0 : Int32) (57 : Int32) g8 hr9) (cwV 2 C.2.2.2.2.2.2.1 (w0_V0 q5_12 q5_9 q5_11 (ws0 31 rfl) q1_10) rfl rfl rfl kd_X9_copy ⟨Nat.le_of_ble_eq_true rfl, Nat.le_of_ble_eq_true rfl⟩) [0, 1] rfl rfl rfl rfl 0 9 rfl rfl hl.1 rfl rfl rfl (Nat.le_of_ble_eq_true rfl) ⟨Nat.le_of_ble_eq_true rfl, Nat.le_of_ble_eq_true rfl⟩ (dq dt_X9_later 32 rfl) (fun H locs hw => ?_)
        refine lv_iconst (v := (0 : Int32)) hx hb (dq dt_X9_later 33 rfl) (by decide) ?_
        refine lv_istore (lv' := [(4, .int (0 : Int32)), (0, .ref a_m), (1, .int p1), (2, .int p2), (3, .int p3)]) hx hb (dq dt_X9_later 34 rfl) hl (by decide) rfl (fun ls hl => ?_)
        obtain ⟨K12, hK012, hK12, hF⟩ := zl2_ hF
        have L12 : ∀ (n : Nat) (x10 : Int32) (h11 : Nat → Int32), K12 n x10 h11 = some (r, m_row') → ∀ (H : Heap) (locs : List Loc) (ls : Array Slot), kW D A s.heap [(a_m, .inr (9, [.ref a_m_row, .ref a_m_isKept, .ref a_m_text, .int m_length, .ref a_m_read, .int m_readMany, .int m_yards, .ref a_m_tides, .ref a_m_seeps, .int m_seepMany, .ref a_m_kinds, .ref a_m_paces, .ref a_m_ears, .int m_many, .int m_at, .int m_place, .int m_end, .int m_readYards, .int m_readSeeps, .int m_readChildren, .ref a_m_hearers, .ref a_m_chosen, .int m_chosenMany, .ref a_m_dues, .ref a_m_sights, .int m_seenMany])), (a_m_row, .inl (cI, 95, .inl h11)), (a_m_tides, .inl (cI, 12, .inl m_tides)), (a_m_seeps, .inl (cI, 18, .inl m_seeps)), (a_m_kinds, .inl (cI, 5, .inl m_kinds)), (a_m_paces, .inl (cI, 5, .inl m_paces)), (a_m_ears, .inl (cI, 5, .inl m_ears))] H locs → lv_has ls 5 [(0, .ref a_m), (1, .int p1), (2, .int p2), (3, .int p3), (4, .int x10)] → W p l e rm_X9_later s m args below meth c H locs 0 0 Q (F0 m 66 ls []) := by
          intro n
          induction n with
          | zero => intro x10 h11 hF; exact (lp_no (hK012 x10 h11) hF).elim
          | succ n ih12 =>
            intro x10 h11 hF H locs ls hw hl
            replace hF := hK12 n x10 h11 hF
            refine lv_iload hx hb (dq dt_X9_later 35 rfl) (lv_at hl 4 rfl) ?_
            refine lv_iload_n hx hb (dq dt_X9_later 36 rfl) rfl (lv_at hl 2 rfl) ?_
            refine lv_icmp_ge (tgt := 84) hx hb (dq dt_X9_later 37 rfl) (by decide) (fun c13 => ?_) (fun c13 => ?_)
            · replace hF := if_t c13 hF
              refine lv_iload_n hx hb (dq dt_X9_later 43 rfl) rfl (lv_at hl 3 rfl) ?_
              refine lv_if_ne (tgt := 100) hx hb (dq dt_X9_later 44 rfl) (by decide) (fun c14 => ?_) (fun c14 => ?_)
              · replace hF := if_f c14 hF
                refine lv_iload_n hx hb (dq dt_X9_later 52 rfl) rfl (lv_at hl 3 rfl) ?_
                refine lv_iconst (v := (1 : Int32)) hx hb (dq dt_X9_later 53 rfl) (by decide) ?_
                refine lv_icmp_ne (tgt := 117) hx hb (dq dt_X9_later 54 rfl) (by decide) (fun c15 => ?_) (fun c15 => ?_)
                · replace hF := if_f c15 hF
                  refine lv_aload_n hx hb (dq dt_X9_later 62 rfl) rfl (lv_at hl 0 rfl) ?_
                  refine lv_bipush (v := (57 : Int32)) hx hb (dq dt_X9_later 63 rfl) (by decide) ?_
                  refine lv_iload_n hx hb (dq dt_X9_later 64 rfl) rfl (lv_at hl 1 rfl) ?_
                  obtain ⟨v16, hr17, hF⟩ := zc1_ hF
                  refine kCallVR C hw (A_X9_hears l D cB cI cJ cZ ad a_m a_m_row a_m_isKept a_m_text a_m_read a_m_tides a_m_seeps a_m_kinds a_m_paces a_m_ears a_m_hearers a_m_chosen a_m_dues a_m_sights m_length m_readMany m_yards m_seepMany m_many m_at m_place m_end m_readYards m_readSeeps m_readChildren m_chosenMany m_seenMany h11 m_seeps m_kinds m_ears (57 : Int32) p1 v16 hr17) (cwV 2 C.2.2.2.2.2.2.1 (w0_V0 q5_45 q5_42 q5_44 (ws0 36 rfl) q1_10) rfl rfl rfl kd_X9_hears ⟨Nat.le_of_ble_eq_true rfl, Nat.le_of_ble_eq_true rfl⟩) [0, 1, 3, 4, 6] rfl rfl 0 9 rfl rfl hl.1 rfl rfl rfl (Nat.le_of_ble_eq_true rfl) ⟨Nat.le_of_ble_eq_true rfl, Nat.le_of_ble_eq_true rfl⟩ (dq dt_X9_later 65 rfl) (fun H locs hw => ?_)
                  cases hF
                  exact kRetI hQ C hw (dq dt_X9_later 66 rfl)
                · replace hF := if_t c15 hF
                  refine lv_aload_n hx hb (dq dt_X9_later 55 rfl) rfl (lv_at hl 0 rfl) ?_
                  refine kGet (ci := 9) C in_X9 hw 0 rfl rfl 0 (by decide) (C.2.2.2.2.2.2.1 _ q4_95) rfl rfl (dq dt_X9_later 56 rfl) ?_
                  refine lv_bipush (v := (64 : Int32)) hx hb (dq dt_X9_later 57 rfl) (by decide) ?_
                  refine lv_iload_n hx hb (dq dt_X9_later 58 rfl) rfl (lv_at hl 1 rfl) ?_
                  refine lv_iadd hx hb (dq dt_X9_later 59 rfl) ?_
                  obtain ⟨v18, ev18, hi19, hF⟩ := rd_ hF
                  refine kIald C hw 1 1 rfl rfl hi19 ev18 (dq dt_X9_later 60 rfl) ?_
                  refine lv_goto (tgt := 124) hx hb (dq dt_X9_later 61 rfl) (by decide) ?_
                  cases hF
                  exact kRetI hQ C hw (dq dt_X9_later 66 rfl)
              · replace hF := if_t c14 hF
                refine lv_aload_n hx hb (dq dt_X9_later 45 rfl) rfl (lv_at hl 0 rfl) ?_
                refine kGet (ci := 9) C in_X9 hw 0 rfl rfl 0 (by decide) (C.2.2.2.2.2.2.1 _ q4_95) rfl rfl (dq dt_X9_later 46 rfl) ?_
                refine lv_bipush (v := (57 : Int32)) hx hb (dq dt_X9_later 47 rfl) (by decide) ?_
                refine lv_iload_n hx hb (dq dt_X9_later 48 rfl) rfl (lv_at hl 1 rfl) ?_
                refine lv_iadd hx hb (dq dt_X9_later 49 rfl) ?_
                obtain ⟨v20, ev20, hi21, hF⟩ := rd_ hF
                refine kIald C hw 1 1 rfl rfl hi21 ev20 (dq dt_X9_later 50 rfl) ?_
                refine lv_goto (tgt := 124) hx hb (dq dt_X9_later 51 rfl) (by decide) ?_
                cases hF
                exact kRetI hQ C hw (dq dt_X9_later 66 rfl)
            · replace hF := if_f c13 hF
              refine lv_aload_n hx hb (dq dt_X9_later 38 rfl) rfl (lv_at hl 0 rfl) ?_
              refine lv_bipush (v := (57 : Int32)) hx hb (dq dt_X9_later 39 rfl) (by decide) ?_
              obtain ⟨g22, hr23, hF⟩ := zc1_ hF
              refine kCallV (ws2 := [(a_m, .inr (9, [.ref a_m_row, .ref a_m_isKept, .ref a_m_text, .int m_length, .ref a_m_read, .int m_readMany, .int m_yards, .ref a_m_tides, .ref a_m_seeps, .int m_seepMany, .ref a_m_kinds, .ref a_m_paces, .ref a_m_ears, .int m_many, .int m_at, .int m_place, .int m_end, .int m_readYards, .int m_readSeeps, .int m_readChildren, .ref a_m_hearers, .ref a_m_chosen, .int m_chosenMany, .ref a_m_dues, .ref a_m_sights, .int m_seenMany])), (a_m_row, .inl (cI, 95, .inl g22)), (a_m_tides, .inl (cI, 12, .inl m_tides)), (a_m_seeps, .inl (cI, 18, .inl m_seeps)), (a_m_kinds, .inl (cI, 5, .inl m_kinds)), (a_m_paces, .inl (cI, 5, .inl m_paces)), (a_m_ears, .inl (cI, 5, .inl m_ears))]) C hw (A_X9_hour l D cB cI cJ cZ ad a_m a_m_row a_m_isKept a_m_text a_m_read a_m_tides a_m_seeps a_m_kinds a_m_paces a_m_ears a_m_hearers a_m_chosen a_m_dues a_m_sights m_length m_readMany m_yards m_seepMany m_many m_at m_place m_end m_readYards m_readSeeps m_readChildren m_chosenMany m_seenMany h11 m_tides m_seeps m_paces (57 : Int32) g22 hr23) (cwV 1 C.2.2.2.2.2.2.1 (w0_V0 q5_69 q5_66 q5_68 (ws0 38 rfl) q1_10) rfl rfl rfl kd_X9_hour ⟨Nat.le_of_ble_eq_true rfl, Nat.le_of_ble_eq_true rfl⟩) [0, 1, 2, 3, 5] rfl rfl rfl rfl 0 9 rfl rfl hl.1 rfl rfl rfl (Nat.le_of_ble_eq_true rfl) ⟨Nat.le_of_ble_eq_true rfl, Nat.le_of_ble_eq_true rfl⟩ (dq dt_X9_later 40 rfl) (fun H locs hw => ?_)
              obtain ⟨v24, ev24, hF⟩ := bd_ hF
              refine lv_iinc (v := v24) (lv' := [(4, .int v24), (0, .ref a_m), (1, .int p1), (2, .int p2), (3, .int p3)]) hx hb (dq dt_X9_later 41 rfl) hl (k := 4) rfl ev24.symm (by decide) rfl (fun ls hl => ?_)
              refine lv_goto (tgt := 66) hx hb (dq dt_X9_later 42 rfl) (by decide) ?_
              exact ih12 v24 g22 hF _ _ _ hw (lv_sub hl [1, 2, 3, 4, 0] rfl)
        exact L12 _ (0 : Int32) g8 hF _ _ _ hw (lv_sub hl [1, 2, 3, 4, 0] rfl)
      · replace hF := if_t c7 hF
        refine lv_bipush (v := (-3 : Int32)) hx hb (dq dt_X9_later 27 rfl) (by decide) ?_
        cases hF
        exact kRetI hQ C hw (dq dt_X9_later 28 rfl)
    refine lv_if_ne (tgt := 30) hx hb (dq dt_X9_later 9 rfl) (by decide) (fun c25 => ?_) (fun c25 => ?_)
    · replace hF := if_f c25 hF
      refine lv_aload_n hx hb (dq dt_X9_later 15 rfl) rfl (lv_at hl 0 rfl) ?_
      refine lv_iload_n hx hb (dq dt_X9_later 16 rfl) rfl (lv_at hl 1 rfl) ?_
      obtain ⟨v26, hr27, hF⟩ := zc1_ hF
      refine kCallVR C hw (A_X9_isChild l D cB cI cJ cZ ad a_m a_m_row a_m_isKept a_m_text a_m_read a_m_tides a_m_seeps a_m_kinds a_m_paces a_m_ears a_m_hearers a_m_chosen a_m_dues a_m_sights m_length m_readMany m_yards m_seepMany m_many m_at m_place m_end m_readYards m_readSeeps m_readChildren m_chosenMany m_seenMany p1 v26 hr27) (cwV 1 C.2.2.2.2.2.2.1 (w0_V0 q5_33 q5_30 q5_32 (ws0 33 rfl) q1_10) rfl rfl rfl kd_X9_isChild ⟨Nat.le_of_ble_eq_true rfl, Nat.le_of_ble_eq_true rfl⟩) [0] rfl rfl 0 9 rfl rfl hl.1 rfl rfl rfl (Nat.le_of_ble_eq_true rfl) ⟨Nat.le_of_ble_eq_true rfl, Nat.le_of_ble_eq_true rfl⟩ (dq dt_X9_later 17 rfl) (fun H locs hw => ?_)
      refine lv_if_ne (tgt := 41) hx hb (dq dt_X9_later 18 rfl) (by decide) (fun c28 => ?_) (fun c28 => ?_)
      · replace hF := if_f c28 hF
        exact J4 hF _ _ _ hw (lv_sub hl [0, 1, 2, 3] rfl)
      · replace hF := if_t c28 hF
        refine lv_bipush (v := (-2 : Int32)) hx hb (dq dt_X9_later 19 rfl) (by decide) ?_
        cases hF
        exact kRetI hQ C hw (dq dt_X9_later 20 rfl)
    · replace hF := if_t c25 hF
      refine lv_aload_n hx hb (dq dt_X9_later 10 rfl) rfl (lv_at hl 0 rfl) ?_
      refine lv_iload_n hx hb (dq dt_X9_later 11 rfl) rfl (lv_at hl 1 rfl) ?_
      obtain ⟨v29, hr30, hF⟩ := zc1_ hF
      refine kCallVR C hw (A_X9_isSeep l D cB cI cJ cZ ad a_m a_m_row a_m_isKept a_m_text a_m_read a_m_tides a_m_seeps a_m_kinds a_m_paces a_m_ears a_m_hearers a_m_chosen a_m_dues a_m_sights m_length m_readMany m_yards m_seepMany m_many m_at m_place m_end m_readYards m_readSeeps m_readChildren m_chosenMany m_seenMany p1 v29 hr30) (cwV 1 C.2.2.2.2.2.2.1 (w0_V0 q5_25 q5_22 q5_24 (ws0 32 rfl) q1_10) rfl rfl rfl kd_X9_isSeep ⟨Nat.le_of_ble_eq_true rfl, Nat.le_of_ble_eq_true rfl⟩) [0] rfl rfl 0 9 rfl rfl hl.1 rfl rfl rfl (Nat.le_of_ble_eq_true rfl) ⟨Nat.le_of_ble_eq_true rfl, Nat.le_of_ble_eq_true rfl⟩ (dq dt_X9_later 12 rfl) (fun H locs hw => ?_)
      refine lv_if_ne (tgt := 41) hx hb (dq dt_X9_later 13 rfl) (by decide) (fun c31 => ?_) (fun c31 => ?_)
      · replace hF := if_f c31 hF
        exact J4 hF _ _ _ hw (lv_sub hl [0, 1, 2, 3] rfl)
      · replace hF := if_t c31 hF
        refine lv_goto (tgt := 38) hx hb (dq dt_X9_later 14 rfl) (by decide) ?_
        refine lv_bipush (v := (-2 : Int32)) hx hb (dq dt_X9_later 19 rfl) (by decide) ?_
        cases hF
        exact kRetI hQ C hw (dq dt_X9_later 20 rfl)
  · replace hF := if_t c3 hF
    refine lv_bipush (v := (-3 : Int32)) hx hb (dq dt_X9_later 6 rfl) (by decide) ?_
    cases hF
    exact kRetI hQ C hw (dq dt_X9_later 7 rfl)
