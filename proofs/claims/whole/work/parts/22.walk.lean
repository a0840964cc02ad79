def F_X9_lostBy (m_chosenMany : Int32) (m_seeps : Nat → Int32) (m_chosen : Nat → Int32) (m_dues : Nat → Int32) (p1 : Int32) (p2 : Int32) : Option (Int32) :=
  zl4 (fun x1 x2 x3 x4 ag5 => if m_chosenMany ≤ x4 then (some x3) else (zc1 (F_X9_rowOf m_chosenMany m_chosen p1 x4) (fun v7 => rd 18 m_seeps ((3 : Int32) * v7) (fun v9 => zc1 (F_X9_far x1 v9) (fun v11 => bd (x2 + (v11 + (1 : Int32))) (fun v13 => rd 18 m_seeps ((3 : Int32) * v7) (fun v14 => rd 6 m_dues v7 (fun v16 => zj1 (fun y18 => bd (x3 + y18) (fun v20 => bd (x4 + (1 : Int32)) (fun v21 => ag5 v14 v13 v20 v21))) (fun K19 => if v16 = (-1 : Int32) then (K19 (0 : Int32)) else (rd 6 m_dues v7 (fun v23 => if v13 < v23 then (K19 (0 : Int32)) else (K19 (1 : Int32))))))))))))) FU p2 (0 : Int32) (0 : Int32) (0 : Int32)
abbrev rm_X9_lostBy : Room := { frames := 2, cells := 0, slots := 0, locals := 49 }
theorem kd_X9_lostBy : yX9_lostBy.cls = RX9 ∧ yX9_lostBy.cls ≠ "java/lang/invoke/MethodHandle" ∧ yX9_lostBy.cls ≠ "java/lang/invoke/VarHandle" ∧ (parseMethodDescriptor yX9_lostBy.desc).map (fun d => d.parameters.length) = some 2 := by decide +kernel
set_option maxRecDepth 100000 in
set_option maxHeartbeats 4000000 in
theorem A_X9_lostBy (l : Launch) (D : va_G) (cB cI cJ cZ : ClassId) (ad : (Nat → Nat) × (Nat → Nat)) (a_m a_m_row a_m_isKept a_m_text a_m_read a_m_tides a_m_seeps a_m_kinds a_m_paces a_m_ears a_m_hearers a_m_chosen a_m_dues a_m_sights : Nat) (m_length : Int32) (m_readMany : Int32) (m_yards : Int32) (m_seepMany : Int32) (m_many : Int32) (m_at : Int32) (m_place : Int32) (m_end : Int32) (m_readYards : Int32) (m_readSeeps : Int32) (m_readChildren : Int32) (m_chosenMany : Int32) (m_seenMany : Int32) (m_seeps : Nat → Int32) (m_chosen : Nat → Int32) (m_dues : Nat → Int32) (p1 : Int32) (p2 : Int32) (r : Int32) (hF : F_X9_lostBy m_chosenMany m_seeps m_chosen m_dues p1 p2 = some r) : kM l yX9_lostBy (Cond.code yX9_lostBy cX9_lostBy 8 (some .int) :: W0) rm_X9_lostBy D (kT cB cI cJ cZ) ad [.ref a_m, .int p1, .int p2] [(a_m, .inr (9, [.ref a_m_row, .ref a_m_isKept, .ref a_m_text, .int m_length, .ref a_m_read, .int m_readMany, .int m_yards, .ref a_m_tides, .ref a_m_seeps, .int m_seepMany, .ref a_m_kinds, .ref a_m_paces, .ref a_m_ears, .int m_many, .int m_at, .int m_place, .int m_end, .int m_readYards, .int m_readSeeps, .int m_readChildren, .ref a_m_hearers, .ref a_m_chosen, .int m_chosenMany, .ref a_m_dues, .ref a_m_sights, .int m_seenMany])), (a_m_seeps, .inl (cI, 18, .inl m_seeps)), (a_m_chosen, .inl (cI, 5, .inl m_chosen)), (a_m_dues, .inl (cI, 6, .inl m_dues))] (some (.int r)) [(a_m, .inr (9, [.ref a_m_row, .ref a_m_isKept, .ref a_m_text, .int m_length, .ref a_m_read, .int m_readMany, .int m_yards, .ref a_m_tides, .ref a_m_seeps, .int m_seepMany, .ref a_m_kinds, .ref a_m_paces, .ref a_m_ears, .int m_many, .int m_at, .int m_place, .int m_end, .int m_readYards, .int m_readSeeps, .int m_readChildren, .ref a_m_hearers, .ref a_m_chosen, .int m_chosenMany, .ref a_m_dues, .ref a_m_sights, .int m_seenMany])), (a_m_seeps, .inl (cI, 18, .inl m_seeps)), (a_m_chosen, .inl (cI, 5, .inl m_chosen)), (a_m_dues, .inl (cI, 6, .inl m_dues))] := by
  unfold F_X9_lostBy at hF
  refine kStart (lv := [(0, .ref a_m), (1, .int p1), (2, .int p2)]) (own := "DikeWatchModel") (plainFor_of_name (by decide)) rfl (Nat.le_of_ble_eq_true rfl) rfl ?_
  intro p e s m args below meth c A Q ls hQ C hx hb hw hl
  refine lv_iload_n hx hb (dq dt_X9_lostBy 0 rfl) rfl (lv_at hl 2 rfl) ?_
  refine lv_istore_n (lv' := [(3, .int p2), (0, .ref a_m), (1, .int p1), (2, .int p2)]) hx hb (dq dt_X9_lostBy 1 rfl) rfl hl (by decide) rfl (fun ls hl => ?_)
  refine lv_iconst (v := (0 : Int32)) hx hb (dq dt_X9_lostBy 2 rfl) (by decide) ?_
  refine lv_istore (lv' := [(4, .int (0 : Int32)), (3, .int p2), (0, .ref a_m), (1, .int p1), (2, .int p2)]) hx hb (dq dt_X9_lostBy 3 rfl) hl (by decide) rfl (fun ls hl => ?_)
  refine lv_iconst (v := (0 : Int32)) hx hb (dq dt_X9_lostBy 4 rfl) (by decide) ?_
  refine lv_istore (lv' := [(5, .int (0 : Int32)), (4, .int (0 : Int32)), (3, .int p2), (0, .ref a_m), (1, .int p1), (2, .int p2)]) hx hb (dq dt_X9_lostBy 5 rfl) hl (by decide) rfl (fun ls hl => ?_)
  refine lv_iconst (v := (0 : Int32)) hx hb (dq dt_X9_lostBy 6 rfl) (by decide) ?_
  refine lv_istore (lv' := [(6, .int (0 : Int32)), (5, .int (0 : Int32)), (4, .int (0 : Int32)), (3, .int p2), (0, .ref a_m), (1, .int p1), (2, .int p2)]) hx hb (dq dt_X9_lostBy 7 rfl) hl (by decide) rfl (fun ls hl => ?_)
  obtain ⟨K5, hK05, hK5, hF⟩ := zl4_ hF
  have L5 : ∀ (n : Nat) (x1 : Int32) (x2 : Int32) (x3 : Int32) (x4 : Int32), K5 n x1 x2 x3 x4 = some r → ∀ (H : Heap) (locs : List Loc) (ls : Array Slot), kW D A s.heap [(a_m, .inr (9, [.ref a_m_row, .ref a_m_isKept, .ref a_m_text, .int m_length, .ref a_m_read, .int m_readMany, .int m_yards, .ref a_m_tides, .ref a_m_seeps, .int m_seepMany, .ref a_m_kinds, .ref a_m_paces, .ref a_m_ears, .int m_many, .int m_at, .int m_place, .int m_end, .int m_readYards, .int m_readSeeps, .int m_readChildren, .ref a_m_hearers, .ref a_m_chosen, .int m_chosenMany, .ref a_m_dues, .ref a_m_sights, .int m_seenMany])), (a_m_seeps, .inl (cI, 18, .inl m_seeps)), (a_m_chosen, .inl (cI, 5, .inl m_chosen)), (a_m_dues, .inl (cI, 6, .inl m_dues))] H locs → lv_has ls 8 [(0, .ref a_m), (1, .int p1), (3, .int x1), (4, .int x2), (5, .int x3), (6, .int x4)] → W p l e rm_X9_lostBy s m args below meth c H locs 0 0 Q (F0 m 11 ls []) := by
    intro n
    induction n with
    | zero => intro x1 x2 x3 x4 hF; exact (lp_no (hK05 x1 x2 x3 x4) hF).elim
    | succ n ih5 =>
      intro x1 x2 x3 x4 hF H locs ls hw hl
      replace hF := hK5 n x1 x2 x3 x4 hF
      refine lv_iload hx hb (dq dt_X9_lostBy 8 rfl) (lv_at hl 5 rfl) ?_
      refine lv_aload_n hx hb (dq dt_X9_lostBy 9 rfl) rfl (lv_at hl 0 rfl) ?_
      refine kGet (ci := 9) C in_X9 hw 0 rfl rfl 22 (by decide) (C.2.2.2.2.2.2.1 _ q4_117) rfl rfl (dq dt_X9_lostBy 10 rfl) ?_
      refine lv_icmp_ge (tgt := 98) hx hb (dq dt_X9_lostBy 11 rfl) (by decide) (fun c6 => ?_) (fun c6 => ?_)
      · replace hF := if_t c6 hF
        refine lv_iload hx hb (dq dt_X9_lostBy 57 rfl) (lv_at hl 4 rfl) ?_
        cases hF
        exact kRetI hQ C hw (dq dt_X9_lostBy 58 rfl)
      · replace hF := if_f c6 hF
        refine lv_aload_n hx hb (dq dt_X9_lostBy 12 rfl) rfl (lv_at hl 0 rfl) ?_
        refine lv_iload_n hx hb (dq dt_X9_lostBy 13 rfl) rfl (lv_at hl 1 rfl) ?_
        refine lv_iload hx hb (dq dt_X9_lostBy 14 rfl) (lv_at hl 5 rfl) ?_
        obtain ⟨v7, hr8, hF⟩ := zc1_ hF
        refine kCallVR C hw (A_X9_rowOf l D cB cI cJ cZ ad a_m a_m_row a_m_isKept a_m_text a_m_read a_m_tides a_m_seeps a_m_kinds a_m_paces a_m_ears a_m_hearers a_m_chosen a_m_dues a_m_sights m_length m_readMany m_yards m_seepMany m_many m_at m_place m_end m_readYards m_readSeeps m_readChildren m_chosenMany m_seenMany m_chosen p1 x4 v7 hr8) (cwV 2 C.2.2.2.2.2.2.1 (w0_V0 q5_137 q5_134 q5_136 (ws0 46 rfl) q1_10) rfl rfl rfl kd_X9_rowOf ⟨Nat.le_of_ble_eq_true rfl, Nat.le_of_ble_eq_true rfl⟩) [0, 2] rfl rfl 0 9 rfl rfl hl.1 rfl rfl rfl (Nat.le_of_ble_eq_true rfl) ⟨Nat.le_of_ble_eq_true rfl, Nat.le_of_ble_eq_true rfl⟩ (dq dt_X9_lostBy 15 rfl) (fun H locs hw => ?_)
        refine lv_istore (lv' := [(7, .int v7), (0, .ref a_m), (1, .int p1), (3, .int x1), (4, .int x2), (5, .int x3), (6, .int x4)]) hx hb (dq dt_X9_lostBy 16 rfl) hl (by decide) rfl (fun ls hl => ?_)
        refine lv_iload hx hb (dq dt_X9_lostBy 17 rfl) (lv_at hl 4 rfl) ?_
        refine lv_iload_n hx hb (dq dt_X9_lostBy 18 rfl) rfl (lv_at hl 3 rfl) ?_
        refine lv_aload_n hx hb (dq dt_X9_lostBy 19 rfl) rfl (lv_at hl 1 rfl) ?_
        refine kGet (ci := 9) C in_X9 hw 0 rfl rfl 8 (by decide) (C.2.2.2.2.2.2.1 _ q4_103) rfl rfl (dq dt_X9_lostBy 20 rfl) ?_
        refine lv_iconst (v := (3 : Int32)) hx hb (dq dt_X9_lostBy 21 rfl) (by decide) ?_
        refine lv_iload hx hb (dq dt_X9_lostBy 22 rfl) (lv_at hl 0 rfl) ?_
        refine lv_imul hx hb (dq dt_X9_lostBy 23 rfl) ?_
        obtain ⟨v9, ev9, hi10, hF⟩ := rd_ hF
        refine kIald C hw 1 1 rfl rfl hi10 ev9 (dq dt_X9_lostBy 24 rfl) ?_
        obtain ⟨v11, hr12, hF⟩ := zc1_ hF
        refine kCallSP C hw (A_X9_far l D cB cI cJ cZ ad x1 v9 v11 hr12) (va_cwS 2 C.2.2.2.2.2.2.1 (w0_S0 q5_55 q5_53 q5_54 q1_10) rfl rfl rfl ke_X9_far ⟨Nat.le_of_ble_eq_true rfl, Nat.le_of_ble_eq_true rfl⟩) hl.1 rfl rfl rfl (Nat.le_of_ble_eq_true rfl) ⟨Nat.le_of_ble_eq_true rfl, Nat.le_of_ble_eq_true rfl⟩ (dq dt_X9_lostBy 25 rfl) (fun H locs hw => ?_)
        refine lv_iconst (v := (1 : Int32)) hx hb (dq dt_X9_lostBy 26 rfl) (by decide) ?_
        refine lv_iadd hx hb (dq dt_X9_lostBy 27 rfl) ?_
        refine lv_iadd hx hb (dq dt_X9_lostBy 28 rfl) ?_
        obtain ⟨v13, ev13, hF⟩ := bd_ hF
        refine kNmI ev13 ?_
        refine lv_istore (lv' := [(4, .int v13), (7, .int v7), (0, .ref a_m), (1, .int p1), (3, .int x1), (5, .int x3), (6, .int x4)]) hx hb (dq dt_X9_lostBy 29 rfl) hl (by decide) rfl (fun ls hl => ?_)
        refine lv_aload_n hx hb (dq dt_X9_lostBy 30 rfl) rfl (lv_at hl 2 rfl) ?_
        refine kGet (ci := 9) C in_X9 hw 0 rfl rfl 8 (by decide) (C.2.2.2.2.2.2.1 _ q4_103) rfl rfl (dq dt_X9_lostBy 31 rfl) ?_
        refine lv_iconst (v := (3 : Int32)) hx hb (dq dt_X9_lostBy 32 rfl) (by decide) ?_
        refine lv_iload hx hb (dq dt_X9_lostBy 33 rfl) (lv_at hl 1 rfl) ?_
        refine lv_imul hx hb (dq dt_X9_lostBy 34 rfl) ?_
        obtain ⟨v14, ev14, hi15, hF⟩ := rd_ hF
        refine kIald C hw 1 1 rfl rfl hi15 ev14 (dq dt_X9_lostBy 35 rfl) ?_
        refine lv_istore_n (lv' := [(3, .int v14), (4, .int v13), (7, .int v7), (0, .ref a_m), (1, .int p1), (5, .int x3), (6, .int x4)]) hx hb (dq dt_X9_lostBy 36 rfl) rfl hl (by decide) rfl (fun ls hl => ?_)
        refine lv_iload hx hb (dq dt_X9_lostBy 37 rfl) (lv_at hl 5 rfl) ?_
        refine lv_aload_n hx hb (dq dt_X9_lostBy 38 rfl) rfl (lv_at hl 3 rfl) ?_
        refine kGet (ci := 9) C in_X9 hw 0 rfl rfl 23 (by decide) (C.2.2.2.2.2.2.1 _ q4_118) rfl rfl (dq dt_X9_lostBy 39 rfl) ?_
        refine lv_iload hx hb (dq dt_X9_lostBy 40 rfl) (lv_at hl 2 rfl) ?_
        obtain ⟨v16, ev16, hi17, hF⟩ := rd_ hF
        refine kIald C hw 3 1 rfl rfl hi17 ev16 (dq dt_X9_lostBy 41 rfl) ?_
        refine lv_iconst (v := (-1 : Int32)) hx hb (dq dt_X9_lostBy 42 rfl) (by decide) ?_
        obtain ⟨K19, hK19, hF⟩ := zj1_ hF
        have J19 : ∀ (y18 : Int32), K19 y18 = some r → ∀ (H : Heap) (locs : List Loc) (ls : Array Slot), kW D A s.heap [(a_m, .inr (9, [.ref a_m_row, .ref a_m_isKept, .ref a_m_text, .int m_length, .ref a_m_read, .int m_readMany, .int m_yards, .ref a_m_tides, .ref a_m_seeps, .int m_seepMany, .ref a_m_kinds, .ref a_m_paces, .ref a_m_ears, .int m_many, .int m_at, .int m_place, .int m_end, .int m_readYards, .int m_readSeeps, .int m_readChildren, .ref a_m_hearers, .ref a_m_chosen, .int m_chosenMany, .ref a_m_dues, .ref a_m_sights, .int m_seenMany])), (a_m_seeps, .inl (cI, 18, .inl m_seeps)), (a_m_chosen, .inl (cI, 5, .inl m_chosen)), (a_m_dues, .inl (cI, 6, .inl m_dues))] H locs → lv_has ls 8 [(0, .ref a_m), (1, .int p1), (3, .int v14), (4, .int v13), (6, .int x4)] → W p l e rm_X9_lostBy s m args below meth c H locs 0 0 Q (F0 m 89 ls [.int y18, .int x3]) := by
          intro y18 hF H locs ls hw hl
          replace hF := hK19 y18 hF
          refine lv_iadd hx hb (dq dt_X9_lostBy 53 rfl) ?_
          obtain ⟨v20, ev20, hF⟩ := bd_ hF
          refine kNmI ev20 ?_
          refine lv_istore (lv' := [(5, .int v20), (0, .ref a_m), (1, .int p1), (3, .int v14), (4, .int v13), (6, .int x4)]) hx hb (dq dt_X9_lostBy 54 rfl) hl (by decide) rfl (fun ls hl => ?_)
          obtain ⟨v21, ev21, hF⟩ := bd_ hF
          refine lv_iinc (v := v21) (lv' := [(6, .int v21), (5, .int v20), (0, .ref a_m), (1, .int p1), (3, .int v14), (4, .int v13)]) hx hb (dq dt_X9_lostBy 55 rfl) hl (k := 5) rfl ev21.symm (by decide) rfl (fun ls hl => ?_)
          refine lv_goto (tgt := 11) hx hb (dq dt_X9_lostBy 56 rfl) (by decide) ?_
          exact ih5 v14 v13 v20 v21 hF _ _ _ hw (lv_sub hl [2, 3, 4, 5, 1, 0] rfl)
        refine lv_icmp_eq (tgt := 88) hx hb (dq dt_X9_lostBy 43 rfl) (by decide) (fun c22 => ?_) (fun c22 => ?_)
        · replace hF := if_t c22 hF
          refine lv_iconst (v := (0 : Int32)) hx hb (dq dt_X9_lostBy 52 rfl) (by decide) ?_
          exact J19 (0 : Int32) hF _ _ _ hw (lv_sub hl [3, 4, 0, 1, 6] rfl)
        · replace hF := if_f c22 hF
          refine lv_aload_n hx hb (dq dt_X9_lostBy 44 rfl) rfl (lv_at hl 3 rfl) ?_
          refine kGet (ci := 9) C in_X9 hw 0 rfl rfl 23 (by decide) (C.2.2.2.2.2.2.1 _ q4_118) rfl rfl (dq dt_X9_lostBy 45 rfl) ?_
          refine lv_iload hx hb (dq dt_X9_lostBy 46 rfl) (lv_at hl 2 rfl) ?_
          obtain ⟨v23, ev23, hi24, hF⟩ := rd_ hF
          refine kIald C hw 3 1 rfl rfl hi24 ev23 (dq dt_X9_lostBy 47 rfl) ?_
          refine lv_iload hx hb (dq dt_X9_lostBy 48 rfl) (lv_at hl 1 rfl) ?_
          refine lv_icmp_gt (tgt := 88) hx hb (dq dt_X9_lostBy 49 rfl) (by decide) (fun c25 => ?_) (fun c25 => ?_)
          · replace hF := if_t c25 hF
            refine lv_iconst (v := (0 : Int32)) hx hb (dq dt_X9_lostBy 52 rfl) (by decide) ?_
            exact J19 (0 : Int32) hF _ _ _ hw (lv_sub hl [3, 4, 0, 1, 6] rfl)
          · replace hF := if_f c25 hF
            refine lv_iconst (v := (1 : Int32)) hx hb (dq dt_X9_lostBy 50 rfl) (by decide) ?_
            refine lv_goto (tgt := 89) hx hb (dq dt_X9_lostBy 51 rfl) (by decide) ?_
            exact J19 (1 : Int32) hF _ _ _ hw (lv_sub hl [3, 4, 0, 1, 6] rfl)
  exact L5 _ p2 (0 : Int32) (0 : Int32) (0 : Int32) hF _ _ _ hw (lv_sub hl [4, 5, 3, 2, 1, 0] rfl)
def F_X9_order (m_yards : Int32) (m_seepMany : Int32) (m_many : Int32) (m_chosenMany : Int32) (m_row : Nat → Int32) (m_tides : Nat → Int32) (m_seeps : Nat → Int32) (m_paces : Nat → Int32) (m_chosen : Nat → Int32) (m_dues : Nat → Int32) (p1 : Int32) (p2 : Int32) (p3 : Int32) : Option (Int32 × Int32 × (Nat → Int32) × (Nat → Int32) × (Nat → Int32)) :=
  zc1 (F_X9_isYard m_yards p1) (fun v1 => if v1 = 0 then (some ((-2 : Int32), m_chosenMany, m_row, m_chosen, m_dues)) else (bd ((((1 : Int32) <<< (m_seepMany &&& 31)) - (1 : Int32)).toInt64) (fun v4 => zc1 (F_X9_in (p2.toInt64) (0 : Int64) v4) (fun v5 => if v5 = 0 then (some ((-2 : Int32), m_chosenMany, m_row, m_chosen, m_dues)) else (if (-1 : Int32) ≤ p3 then (zc1 (F_X9_bits p2) (fun v9 => if (5 : Int32) < v9 then (some ((-4 : Int32), m_chosenMany, m_row, m_chosen, m_dues)) else (rd 95 m_row (6 : Int32) (fun v12 => if (p2 &&& v12) = 0 then (zl6 (fun x15 x16 h17 h18 h19 h20 ag21 => if m_seepMany ≤ x16 then (zl3 (fun x23 x24 x25 ag26 => if x15 ≤ x25 then (if p3 = (-1 : Int32) then (some (x24, h17, h18, h19, h20)) else (if h17 ≤ p3 then (some ((-1 : Int32), h17, h18, h19, h20)) else (zc1 (F_X9_rowOf h17 h19 x23 p3) (fun v30 => some (v30, h17, h18, h19, h20))))) else (zc1 (F_X9_lostBy h17 m_seeps h19 h20 x25 p1) (fun v32 => zj1 (fun y34 => if x24 ≤ v32 then (bd (x25 + (1 : Int32)) (fun v37 => ag26 y34 x24 v37)) else (bd (x25 + (1 : Int32)) (fun v38 => ag26 y34 v32 v38))) (fun K35 => if x24 ≤ v32 then (K35 x23) else (K35 x25))))) FU (0 : Int32) (99 : Int32) (0 : Int32)) else (zc1 (F_X9_has p2 x16) (fun v40 => if v40 = 0 then (bd (x16 + (1 : Int32)) (fun v43 => ag21 x15 v43 h17 h18 h19 h20)) else (zc2 (F_X9_breaksIn m_yards m_seepMany m_many h18 m_tides m_seeps m_paces x16) (fun v44 g45 => wr 6 x16 (upd h20 (x16).toNatClampNeg v44) (fun g47 => wr 5 h17 (upd h19 (h17).toNatClampNeg x16) (fun g49 => bd (h17 + (1 : Int32)) (fun v51 => bd (x15 * v51) (fun v52 => bd (x16 + (1 : Int32)) (fun v53 => ag21 v52 v53 v51 g45 g49 g47)))))))))) FU (1 : Int32) (0 : Int32) (0 : Int32) m_row m_chosen m_dues) else (some ((-4 : Int32), m_chosenMany, m_row, m_chosen, m_dues)))))) else (some ((-3 : Int32), m_chosenMany, m_row, m_chosen, m_dues)))))))
abbrev rm_X9_order : Room := { frames := 4, cells := 0, slots := 0, locals := 91 }
theorem kd_X9_order : yX9_order.cls = RX9 ∧ yX9_order.cls ≠ "java/lang/invoke/MethodHandle" ∧ yX9_order.cls ≠ "java/lang/invoke/VarHandle" ∧ (parseMethodDescriptor yX9_order.desc).map (fun d => d.parameters.length) = some 3 := by decide +kernel
set_option maxRecDepth 100000 in
set_option maxHeartbeats 4000000 in
theorem A_X9_order (l : Launch) (D : va_G) (cB cI cJ cZ : ClassId) (ad : (Nat → Nat) × (Nat → Nat)) (a_m a_m_row a_m_isKept a_m_text a_m_read a_m_tides a_m_seeps a_m_kinds a_m_paces a_m_ears a_m_hearers a_m_chosen a_m_dues a_m_sights : Nat) (m_length : Int32) (m_readMany : Int32) (m_yards : Int32) (m_seepMany : Int32) (m_many : Int32) (m_at : Int32) (m_place : Int32) (m_end : Int32) (m_readYards : Int32) (m_readSeeps : Int32) (m_readChildren : Int32) (m_chosenMany : Int32) (m_seenMany : Int32) (m_row : Nat → Int32) (m_tides : Nat → Int32) (m_seeps : Nat → Int32) (m_paces : Nat → Int32) (m_chosen : Nat → Int32) (m_dues : Nat → Int32) (p1 : Int32) (p2 : Int32) (p3 : Int32) (r : Int32) (m_chosenMany' : Int32) (m_row' : Nat → Int32) (m_chosen' : Nat → Int32) (m_dues' : Nat → Int32) (hF : F_X9_order m_yards m_seepMany m_many m_chosenMany m_row m_tides m_seeps m_paces m_chosen m_dues p1 p2 p3 = some (r, m_chosenMany', m_row', m_chosen', m_dues')) : kM l yX9_order (Cond.code yX9_order cX9_order 9 (some .int) :: W0) rm_X9_order D (kT cB cI cJ cZ) ad [.ref a_m, .int p1, .int p2, .int p3] [(a_m, .inr (9, [.ref a_m_row, .ref a_m_isKept, .ref a_m_text, .int m_length, .ref a_m_read, .int m_readMany, .int m_yards, .ref a_m_tides, .ref a_m_seeps, .int m_seepMany, .ref a_m_kinds, .ref a_m_paces, .ref a_m_ears, .int m_many, .int m_at, .int m_place, .int m_end, .int m_readYards, .int m_readSeeps, .int m_readChildren, .ref a_m_hearers, .ref a_m_chosen, .int m_chosenMany, .ref a_m_dues, .ref a_m_sights, .int m_seenMany])), (a_m_row, .inl (cI, 95, .inl m_row)), (a_m_tides, .inl (cI, 12, .inl m_tides)), (a_m_seeps, .inl (cI, 18, .inl m_seeps)), (a_m_paces, .inl (cI, 5, .inl m_paces)), (a_m_chosen, .inl (cI, 5, .inl m_chosen)), (a_m_dues, .inl (cI, 6, .inl m_dues))] (some (.int r)) [(a_m, .inr (9, [.ref a_m_row, .ref a_m_isKept, .ref a_m_text, .int m_length, .ref a_m_read, .int m_readMany, .int m_yards, .ref a_m_tides, .ref a_m_seeps, .int m_seepMany, .ref a_m_kinds, .ref a_m_paces, .ref a_m_ears, .int m_many, .int m_at, .int m_place, .int m_end, .int m_readYards, .int m_readSeeps, .int m_readChildren, .ref a_m_hearers, .ref a_m_chosen, .int (m_chosenMany'), .ref a_m_dues, .ref a_m_sights, .int m_seenMany])), (a_m_row, .inl (cI, 95, .inl (m_row'))), (a_m_tides, .inl (cI, 12, .inl m_tides)), (a_m_seeps, .inl (cI, 18, .inl m_seeps)), (a_m_paces, .inl (cI, 5, .inl m_paces)), (a_m_chosen, .inl (cI, 5, .inl (m_chosen'))), (a_m_dues, .inl (cI, 6, .inl (m_dues')))] := by
  unfold F_X9_order at hF
  refine kStart (lv := [(0, .ref a_m), (1, .int p1), (2, .int p2), (3, .int p3)]) (own := "DikeWatchModel") (plainFor_of_name (by decide)) rfl (Nat.le_of_ble_eq_true rfl) rfl ?_
  intro p e s m args below meth c A Q ls hQ C hx hb hw hl
  refine lv_aload_n hx hb (dq dt_X9_order 0 rfl) rfl (lv_at hl 0 rfl) ?_
  refine lv_iload_n hx hb (dq dt_X9_order 1 rfl) rfl (lv_at hl 1 rfl) ?_
  obtain ⟨v1, hr2, hF⟩ := zc1_ hF
  refine kCallVR C hw (A_X9_isYard l D cB cI cJ cZ ad a_m a_m_row a_m_isKept a_m_text a_m_read a_m_tides a_m_seeps a_m_kinds a_m_paces a_m_ears a_m_hearers a_m_chosen a_m_dues a_m_sights m_length m_readMany m_yards m_seepMany m_many m_at m_place m_end m_readYards m_readSeeps m_readChildren m_chosenMany m_seenMany p1 v1 hr2) (cwV 1 C.2.2.2.2.2.2.1 (w0_V0 q5_81 q5_78 q5_80 (ws0 40 rfl) q1_10) rfl rfl rfl kd_X9_isYard ⟨Nat.le_of_ble_eq_true rfl, Nat.le_of_ble_eq_true rfl⟩) [0] rfl rfl 0 9 rfl rfl hl.1 rfl rfl rfl (Nat.le_of_ble_eq_true rfl) ⟨Nat.le_of_ble_eq_true rfl, Nat.le_of_ble_eq_true rfl⟩ (dq dt_X9_order 2 rfl) (fun H locs hw => ?_)
  refine lv_if_eq (tgt := 26) hx hb (dq dt_X9_order 3 rfl) (by decide) (fun c3 => ?_) (fun c3 => ?_)
  · replace hF := if_t c3 hF
    refine lv_bipush (v := (-2 : Int32)) hx hb (dq dt_X9_order 16 rfl) (by decide) ?_
    cases hF
    exact kRetI hQ C hw (dq dt_X9_order 17 rfl)
  · replace hF := if_f c3 hF
    refine lv_iload_n hx hb (dq dt_X9_order 4 rfl) rfl (lv_at hl 2 rfl) ?_
    refine lv_i2l (v := (p2.toInt64)) hx hb (dq dt_X9_order 5 rfl) rfl ?_
    refine lv_lconst (v := (0 : Int64)) hx hb (dq dt_X9_order 6 rfl) (by decide) ?_
    refine lv_iconst (v := (1 : Int32)) hx hb (dq dt_X9_order 7 rfl) (by decide) ?_
    refine lv_aload_n hx hb (dq dt_X9_order 8 rfl) rfl (lv_at hl 0 rfl) ?_
    refine kGet (ci := 9) C in_X9 hw 0 rfl rfl 9 (by decide) (C.2.2.2.2.2.2.1 _ q4_104) rfl rfl (dq dt_X9_order 9 rfl) ?_
    refine lv_ishl hx hb (dq dt_X9_order 10 rfl) ?_
    refine lv_iconst (v := (1 : Int32)) hx hb (dq dt_X9_order 11 rfl) (by decide) ?_
    refine lv_isub hx hb (dq dt_X9_order 12 rfl) ?_
    refine lv_i2l (v := ((((1 : Int32) <<< (m_seepMany &&& 31)) - (1 : Int32)).toInt64)) hx hb (dq dt_X9_order 13 rfl) rfl ?_
    obtain ⟨v4, ev4, hF⟩ := bd_ hF
    refine kNmL ev4 ?_
    obtain ⟨v5, hr6, hF⟩ := zc1_ hF
    refine kCallSP C hw (A_X9_in l D cB cI cJ cZ ad (p2.toInt64) (0 : Int64) v4 v5 hr6) (va_cwS 3 C.2.2.2.2.2.2.1 (w0_S0 q4_182 q4_180 q4_181 q1_10) rfl rfl rfl ke_X9_in ⟨Nat.le_of_ble_eq_true rfl, Nat.le_of_ble_eq_true rfl⟩) hl.1 rfl rfl rfl (Nat.le_of_ble_eq_true rfl) ⟨Nat.le_of_ble_eq_true rfl, Nat.le_of_ble_eq_true rfl⟩ (dq dt_X9_order 14 rfl) (fun H locs hw => ?_)
    refine lv_if_ne (tgt := 29) hx hb (dq dt_X9_order 15 rfl) (by decide) (fun c7 => ?_) (fun c7 => ?_)
    · replace hF := if_f c7 hF
      refine lv_iload_n hx hb (dq dt_X9_order 18 rfl) rfl (lv_at hl 3 rfl) ?_
      refine lv_iconst (v := (-1 : Int32)) hx hb (dq dt_X9_order 19 rfl) (by decide) ?_
      refine lv_icmp_ge (tgt := 37) hx hb (dq dt_X9_order 20 rfl) (by decide) (fun c8 => ?_) (fun c8 => ?_)
      · replace hF := if_t c8 hF
        refine lv_iload_n hx hb (dq dt_X9_order 23 rfl) rfl (lv_at hl 2 rfl) ?_
        obtain ⟨v9, hr10, hF⟩ := zc1_ hF
        refine kCallSP C hw (A_X9_bits l D cB cI cJ cZ ad p2 v9 hr10) (va_cwS 1 C.2.2.2.2.2.2.1 (w0_S0 q5_125 q5_123 q5_124 q1_10) rfl rfl rfl ke_X9_bits ⟨Nat.le_of_ble_eq_true rfl, Nat.le_of_ble_eq_true rfl⟩) hl.1 rfl rfl rfl (Nat.le_of_ble_eq_true rfl) ⟨Nat.le_of_ble_eq_true rfl, Nat.le_of_ble_eq_true rfl⟩ (dq dt_X9_order 24 rfl) (fun H locs hw => ?_)
        refine lv_iconst (v := (5 : Int32)) hx hb (dq dt_X9_order 25 rfl) (by decide) ?_
        refine lv_icmp_gt (tgt := 57) hx hb (dq dt_X9_order 26 rfl) (by decide) (fun c11 => ?_) (fun c11 => ?_)
        · replace hF := if_t c11 hF
          refine lv_bipush (v := (-4 : Int32)) hx hb (dq dt_X9_order 34 rfl) (by decide) ?_
          cases hF
          exact kRetI hQ C hw (dq dt_X9_order 35 rfl)
        · replace hF := if_f c11 hF
          refine lv_iload_n hx hb (dq dt_X9_order 27 rfl) rfl (lv_at hl 2 rfl) ?_
          refine lv_aload_n hx hb (dq dt_X9_order 28 rfl) rfl (lv_at hl 0 rfl) ?_
          refine kGet (ci := 9) C in_X9 hw 0 rfl rfl 0 (by decide) (C.2.2.2.2.2.2.1 _ q4_95) rfl rfl (dq dt_X9_order 29 rfl) ?_
          refine lv_bipush (v := (6 : Int32)) hx hb (dq dt_X9_order 30 rfl) (by decide) ?_
          obtain ⟨v12, ev12, hi13, hF⟩ := rd_ hF
          refine kIald C hw 1 1 rfl rfl hi13 ev12 (dq dt_X9_order 31 rfl) ?_
          refine lv_iand hx hb (dq dt_X9_order 32 rfl) ?_
          refine lv_if_eq (tgt := 60) hx hb (dq dt_X9_order 33 rfl) (by decide) (fun c14 => ?_) (fun c14 => ?_)
          · replace hF := if_t c14 hF
            refine lv_aload_n hx hb (dq dt_X9_order 36 rfl) rfl (lv_at hl 0 rfl) ?_
            refine lv_iconst (v := (0 : Int32)) hx hb (dq dt_X9_order 37 rfl) (by decide) ?_
            refine kPut (ci := 9) (ws' := [(a_m, .inr (9, [.ref a_m_row, .ref a_m_isKept, .ref a_m_text, .int m_length, .ref a_m_read, .int m_readMany, .int m_yards, .ref a_m_tides, .ref a_m_seeps, .int m_seepMany, .ref a_m_kinds, .ref a_m_paces, .ref a_m_ears, .int m_many, .int m_at, .int m_place, .int m_end, .int m_readYards, .int m_readSeeps, .int m_readChildren, .ref a_m_hearers, .ref a_m_chosen, .int (0 : Int32), .ref a_m_dues, .ref a_m_sights, .int m_seenMany])), (a_m_row, .inl (cI, 95, .inl m_row)), (a_m_tides, .inl (cI, 12, .inl m_tides)), (a_m_seeps, .inl (cI, 18, .inl m_seeps)), (a_m_paces, .inl (cI, 5, .inl m_paces)), (a_m_chosen, .inl (cI, 5, .inl m_chosen)), (a_m_dues, .inl (cI, 6, .inl m_dues))]) C in_X9 tyX9 tyX9_ok nmX9 hw 0 rfl rfl 22 (by decide) (C.2.2.2.2.2.2.1 _ q4_117) rfl rfl rfl rfl (Nat.le_of_ble_eq_true rfl) rfl (dq dt_X9_order 38 rfl) (fun H locs hw => ?_)
            refine lv_iconst (v := (1 : Int32)) hx hb (dq dt_X9_order 39 rfl) (by decide) ?_
            refine lv_istore (lv' := [(4, .int (1 : Int32)), (0, .ref a_m), (1, .int p1), (2, .int p2), (3, .int p3)]) hx hb (dq dt_X9_order 40 rfl) hl (by decide) rfl (fun ls hl => ?_)
            refine lv_iconst (v := (0 : Int32)) hx hb (dq dt_X9_order 41 rfl) (by decide) ?_
            refine lv_istore (lv' := [(5, .int (0 : Int32)), (4, .int (1 : Int32)), (0, .ref a_m), (1, .int p1), (2, .int p2), (3, .int p3)]) hx hb (dq dt_X9_order 42 rfl) hl (by decide) rfl (fun ls hl => ?_)
            obtain ⟨K21, hK021, hK21, hF⟩ := zl6_ hF
            have L21 : ∀ (n : Nat) (x15 : Int32) (x16 : Int32) (h17 : Int32) (h18 : Nat → Int32) (h19 : Nat → Int32) (h20 : Nat → Int32), K21 n x15 x16 h17 h18 h19 h20 = some (r, m_chosenMany', m_row', m_chosen', m_dues') → ∀ (H : Heap) (locs : List Loc) (ls : Array Slot), kW D A s.heap [(a_m, .inr (9, [.ref a_m_row, .ref a_m_isKept, .ref a_m_text, .int m_length, .ref a_m_read, .int m_readMany, .int m_yards, .ref a_m_tides, .ref a_m_seeps, .int m_seepMany, .ref a_m_kinds, .ref a_m_paces, .ref a_m_ears, .int m_many, .int m_at, .int m_place, .int m_end, .int m_readYards, .int m_readSeeps, .int m_readChildren, .ref a_m_hearers, .ref a_m_chosen, .int h17, .ref a_m_dues, .ref a_m_sights, .int m_seenMany])), (a_m_row, .inl (cI, 95, .inl h18)), (a_m_tides, .inl (cI, 12, .inl m_tides)), (a_m_seeps, .inl (cI, 18, .inl m_seeps)), (a_m_paces, .inl (cI, 5, .inl m_paces)), (a_m_chosen, .inl (cI, 5, .inl h19)), (a_m_dues, .inl (cI, 6, .inl h20))] H locs → lv_has ls 9 [(0, .ref a_m), (1, .int p1), (2, .int p2), (3, .int p3), (4, .int x15), (5, .int x16)] → W p l e rm_X9_order s m args below meth c H locs 0 0 Q (F0 m 71 ls []) := by
              intro n
              induction n with
              | zero => intro x15 x16 h17 h18 h19 h20 hF; exact (lp_no (hK021 x15 x16 h17 h18 h19 h20) hF).elim
              | succ n ih21 =>
                intro x15 x16 h17 h18 h19 h20 hF H locs ls hw hl
                replace hF := hK21 n x15 x16 h17 h18 h19 h20 hF
                refine lv_iload hx hb (dq dt_X9_order 43 rfl) (lv_at hl 5 rfl) ?_
                refine lv_aload_n hx hb (dq dt_X9_order 44 rfl) rfl (lv_at hl 0 rfl) ?_
                refine kGet (ci := 9) C in_X9 hw 0 rfl rfl 9 (by decide) (C.2.2.2.2.2.2.1 _ q4_104) rfl rfl (dq dt_X9_order 45 rfl) ?_
                refine lv_icmp_ge (tgt := 138) hx hb (dq dt_X9_order 46 rfl) (by decide) (fun c22 => ?_) (fun c22 => ?_)
                · replace hF := if_t c22 hF
                  refine lv_iconst (v := (0 : Int32)) hx hb (dq dt_X9_order 77 rfl) (by decide) ?_
                  refine lv_istore (lv' := [(5, .int (0 : Int32)), (0, .ref a_m), (1, .int p1), (2, .int p2), (3, .int p3), (4, .int x15)]) hx hb (dq dt_X9_order 78 rfl) hl (by decide) rfl (fun ls hl => ?_)
                  refine lv_bipush (v := (99 : Int32)) hx hb (dq dt_X9_order 79 rfl) (by decide) ?_
                  refine lv_istore (lv' := [(6, .int (99 : Int32)), (5, .int (0 : Int32)), (0, .ref a_m), (1, .int p1), (2, .int p2), (3, .int p3), (4, .int x15)]) hx hb (dq dt_X9_order 80 rfl) hl (by decide) rfl (fun ls hl => ?_)
                  refine lv_iconst (v := (0 : Int32)) hx hb (dq dt_X9_order 81 rfl) (by decide) ?_
                  refine lv_istore (lv' := [(7, .int (0 : Int32)), (6, .int (99 : Int32)), (5, .int (0 : Int32)), (0, .ref a_m), (1, .int p1), (2, .int p2), (3, .int p3), (4, .int x15)]) hx hb (dq dt_X9_order 82 rfl) hl (by decide) rfl (fun ls hl => ?_)
                  obtain ⟨K26, hK026, hK26, hF⟩ := zl3_ hF
                  have L26 : ∀ (n : Nat) (x23 : Int32) (x24 : Int32) (x25 : Int32), K26 n x23 x24 x25 = some (r, m_chosenMany', m_row', m_chosen', m_dues') → ∀ (H : Heap) (locs : List Loc) (ls : Array Slot), kW D A s.heap [(a_m, .inr (9, [.ref a_m_row, .ref a_m_isKept, .ref a_m_text, .int m_length, .ref a_m_read, .int m_readMany, .int m_yards, .ref a_m_tides, .ref a_m_seeps, .int m_seepMany, .ref a_m_kinds, .ref a_m_paces, .ref a_m_ears, .int m_many, .int m_at, .int m_place, .int m_end, .int m_readYards, .int m_readSeeps, .int m_readChildren, .ref a_m_hearers, .ref a_m_chosen, .int h17, .ref a_m_dues, .ref a_m_sights, .int m_seenMany])), (a_m_row, .inl (cI, 95, .inl h18)), (a_m_tides, .inl (cI, 12, .inl m_tides)), (a_m_seeps, .inl (cI, 18, .inl m_seeps)), (a_m_paces, .inl (cI, 5, .inl m_paces)), (a_m_chosen, .inl (cI, 5, .inl h19)), (a_m_dues, .inl (cI, 6, .inl h20))] H locs → lv_has ls 9 [(0, .ref a_m), (1, .int p1), (3, .int p3), (4, .int x15), (5, .int x23), (6, .int x24), (7, .int x25)] → W p l e rm_X9_order s m args below meth c H locs 0 0 Q (F0 m 148 ls []) := by
                    intro n
                    induction n with
                    | zero => intro x23 x24 x25 hF; exact (lp_no (hK026 x23 x24 x25) hF).elim
                    | succ n ih26 =>
                      intro x23 x24 x25 hF H locs ls hw hl
                      replace hF := hK26 n x23 x24 x25 hF
                      refine lv_iload hx hb (dq dt_X9_order 83 rfl) (lv_at hl 6 rfl) ?_
                      refine lv_iload hx hb (dq dt_X9_order 84 rfl) (lv_at hl 3 rfl) ?_
                      refine lv_icmp_ge (tgt := 202) hx hb (dq dt_X9_order 85 rfl) (by decide) (fun c27 => ?_) (fun c27 => ?_)
                      · replace hF := if_t c27 hF
                        refine lv_iload_n hx hb (dq dt_X9_order 107 rfl) rfl (lv_at hl 2 rfl) ?_
                        refine lv_iconst (v := (-1 : Int32)) hx hb (dq dt_X9_order 108 rfl) (by decide) ?_
                        refine lv_icmp_ne (tgt := 212) hx hb (dq dt_X9_order 109 rfl) (by decide) (fun c28 => ?_) (fun c28 => ?_)
                        · replace hF := if_f c28 hF
                          refine lv_iload_n hx hb (dq dt_X9_order 112 rfl) rfl (lv_at hl 2 rfl) ?_
                          refine lv_aload_n hx hb (dq dt_X9_order 113 rfl) rfl (lv_at hl 0 rfl) ?_
                          refine kGet (ci := 9) C in_X9 hw 0 rfl rfl 22 (by decide) (C.2.2.2.2.2.2.1 _ q4_117) rfl rfl (dq dt_X9_order 114 rfl) ?_
                          refine lv_icmp_ge (tgt := 230) hx hb (dq dt_X9_order 115 rfl) (by decide) (fun c29 => ?_) (fun c29 => ?_)
                          · replace hF := if_t c29 hF
                            refine lv_iconst (v := (-1 : Int32)) hx hb (dq dt_X9_order 121 rfl) (by decide) ?_
                            cases hF
                            exact kRetI hQ C hw (dq dt_X9_order 122 rfl)
                          · replace hF := if_f c29 hF
                            refine lv_aload_n hx hb (dq dt_X9_order 116 rfl) rfl (lv_at hl 0 rfl) ?_
                            refine lv_iload hx hb (dq dt_X9_order 117 rfl) (lv_at hl 4 rfl) ?_
                            refine lv_iload_n hx hb (dq dt_X9_order 118 rfl) rfl (lv_at hl 2 rfl) ?_
                            obtain ⟨v30, hr31, hF⟩ := zc1_ hF
                            refine kCallVR C hw (A_X9_rowOf l D cB cI cJ cZ ad a_m a_m_row a_m_isKept a_m_text a_m_read a_m_tides a_m_seeps a_m_kinds a_m_paces a_m_ears a_m_hearers a_m_chosen a_m_dues a_m_sights m_length m_readMany m_yards m_seepMany m_many m_at m_place m_end m_readYards m_readSeeps m_readChildren h17 m_seenMany h19 x23 p3 v30 hr31) (cwV 2 C.2.2.2.2.2.2.1 (w0_V0 q5_137 q5_134 q5_136 (ws0 46 rfl) q1_10) rfl rfl rfl kd_X9_rowOf ⟨Nat.le_of_ble_eq_true rfl, Nat.le_of_ble_eq_true rfl⟩) [0, 5] rfl rfl 0 9 rfl rfl hl.1 rfl rfl rfl (Nat.le_of_ble_eq_true rfl) ⟨Nat.le_of_ble_eq_true rfl, Nat.le_of_ble_eq_true rfl⟩ (dq dt_X9_order 119 rfl) (fun H locs hw => ?_)
                            refine lv_goto (tgt := 231) hx hb (dq dt_X9_order 120 rfl) (by decide) ?_
                            cases hF
                            exact kRetI hQ C hw (dq dt_X9_order 122 rfl)
                        · replace hF := if_t c28 hF
                          refine lv_iload hx hb (dq dt_X9_order 110 rfl) (lv_at hl 5 rfl) ?_
                          refine lv_goto (tgt := 231) hx hb (dq dt_X9_order 111 rfl) (by decide) ?_
                          cases hF
                          exact kRetI hQ C hw (dq dt_X9_order 122 rfl)
                      · replace hF := if_f c27 hF
                        refine lv_aload_n hx hb (dq dt_X9_order 86 rfl) rfl (lv_at hl 0 rfl) ?_
                        refine lv_iload hx hb (dq dt_X9_order 87 rfl) (lv_at hl 6 rfl) ?_
                        refine lv_iload_n hx hb (dq dt_X9_order 88 rfl) rfl (lv_at hl 1 rfl) ?_
                        obtain ⟨v32, hr33, hF⟩ := zc1_ hF
                        refine kCallVR C hw (A_X9_lostBy l D cB cI cJ cZ ad a_m a_m_row a_m_isKept a_m_text a_m_read a_m_tides a_m_seeps a_m_kinds a_m_paces a_m_ears a_m_hearers a_m_chosen a_m_dues a_m_sights m_length m_readMany m_yards m_seepMany m_many m_at m_place m_end m_readYards m_readSeeps m_readChildren h17 m_seenMany m_seeps h19 h20 x25 p1 v32 hr33) (cwV 2 C.2.2.2.2.2.2.1 (w0_V0 q5_133 q5_130 q5_132 (ws0 45 rfl) q1_10) rfl rfl rfl kd_X9_lostBy ⟨Nat.le_of_ble_eq_true rfl, Nat.le_of_ble_eq_true rfl⟩) [0, 3, 5, 6] rfl rfl 0 9 rfl rfl hl.1 rfl rfl rfl (Nat.le_of_ble_eq_true rfl) ⟨Nat.le_of_ble_eq_true rfl, Nat.le_of_ble_eq_true rfl⟩ (dq dt_X9_order 89 rfl) (fun H locs hw => ?_)
                        refine lv_istore (lv' := [(8, .int v32), (0, .ref a_m), (1, .int p1), (3, .int p3), (4, .int x15), (5, .int x23), (6, .int x24), (7, .int x25)]) hx hb (dq dt_X9_order 90 rfl) hl (by decide) rfl (fun ls hl => ?_)
                        refine lv_iload hx hb (dq dt_X9_order 91 rfl) (lv_at hl 0 rfl) ?_
                        refine lv_iload hx hb (dq dt_X9_order 92 rfl) (lv_at hl 6 rfl) ?_
                        obtain ⟨K35, hK35, hF⟩ := zj1_ hF
                        have J35 : ∀ (y34 : Int32), K35 y34 = some (r, m_chosenMany', m_row', m_chosen', m_dues') → ∀ (H : Heap) (locs : List Loc) (ls : Array Slot), kW D A s.heap [(a_m, .inr (9, [.ref a_m_row, .ref a_m_isKept, .ref a_m_text, .int m_length, .ref a_m_read, .int m_readMany, .int m_yards, .ref a_m_tides, .ref a_m_seeps, .int m_seepMany, .ref a_m_kinds, .ref a_m_paces, .ref a_m_ears, .int m_many, .int m_at, .int m_place, .int m_end, .int m_readYards, .int m_readSeeps, .int m_readChildren, .ref a_m_hearers, .ref a_m_chosen, .int h17, .ref a_m_dues, .ref a_m_sights, .int m_seenMany])), (a_m_row, .inl (cI, 95, .inl h18)), (a_m_tides, .inl (cI, 12, .inl m_tides)), (a_m_seeps, .inl (cI, 18, .inl m_seeps)), (a_m_paces, .inl (cI, 5, .inl m_paces)), (a_m_chosen, .inl (cI, 5, .inl h19)), (a_m_dues, .inl (cI, 6, .inl h20))] H locs → lv_has ls 9 [(0, .ref a_m), (1, .int p1), (3, .int p3), (4, .int x15), (6, .int x24), (7, .int x25), (8, .int v32)] → W p l e rm_X9_order s m args below meth c H locs 0 0 Q (F0 m 178 ls [.int y34]) := by
                          intro y34 hF H locs ls hw hl
                          replace hF := hK35 y34 hF
                          refine lv_istore (lv' := [(5, .int y34), (0, .ref a_m), (1, .int p1), (3, .int p3), (4, .int x15), (6, .int x24), (7, .int x25), (8, .int v32)]) hx hb (dq dt_X9_order 97 rfl) hl (by decide) rfl (fun ls hl => ?_)
                          refine lv_iload hx hb (dq dt_X9_order 98 rfl) (lv_at hl 7 rfl) ?_
                          refine lv_iload hx hb (dq dt_X9_order 99 rfl) (lv_at hl 5 rfl) ?_
                          refine lv_icmp_ge (tgt := 192) hx hb (dq dt_X9_order 100 rfl) (by decide) (fun c36 => ?_) (fun c36 => ?_)
                          · replace hF := if_t c36 hF
                            refine lv_iload hx hb (dq dt_X9_order 103 rfl) (lv_at hl 5 rfl) ?_
                            refine lv_istore (lv' := [(6, .int x24), (5, .int y34), (0, .ref a_m), (1, .int p1), (3, .int p3), (4, .int x15), (7, .int x25), (8, .int v32)]) hx hb (dq dt_X9_order 104 rfl) hl (by decide) rfl (fun ls hl => ?_)
                            obtain ⟨v37, ev37, hF⟩ := bd_ hF
                            refine lv_iinc (v := v37) (lv' := [(7, .int v37), (6, .int x24), (5, .int y34), (0, .ref a_m), (1, .int p1), (3, .int p3), (4, .int x15), (8, .int v32)]) hx hb (dq dt_X9_order 105 rfl) hl (k := 6) rfl ev37.symm (by decide) rfl (fun ls hl => ?_)
                            refine lv_goto (tgt := 148) hx hb (dq dt_X9_order 106 rfl) (by decide) ?_
                            exact ih26 y34 x24 v37 hF _ _ _ hw (lv_sub hl [3, 4, 5, 6, 2, 1, 0] rfl)
                          · replace hF := if_f c36 hF
                            refine lv_iload hx hb (dq dt_X9_order 101 rfl) (lv_at hl 7 rfl) ?_
                            refine lv_goto (tgt := 194) hx hb (dq dt_X9_order 102 rfl) (by decide) ?_
                            refine lv_istore (lv' := [(6, .int v32), (5, .int y34), (0, .ref a_m), (1, .int p1), (3, .int p3), (4, .int x15), (7, .int x25), (8, .int v32)]) hx hb (dq dt_X9_order 104 rfl) hl (by decide) rfl (fun ls hl => ?_)
                            obtain ⟨v38, ev38, hF⟩ := bd_ hF
                            refine lv_iinc (v := v38) (lv' := [(7, .int v38), (6, .int v32), (5, .int y34), (0, .ref a_m), (1, .int p1), (3, .int p3), (4, .int x15), (8, .int v32)]) hx hb (dq dt_X9_order 105 rfl) hl (k := 6) rfl ev38.symm (by decide) rfl (fun ls hl => ?_)
                            refine lv_goto (tgt := 148) hx hb (dq dt_X9_order 106 rfl) (by decide) ?_
                            exact ih26 y34 v32 v38 hF _ _ _ hw (lv_sub hl [3, 4, 5, 6, 2, 1, 0] rfl)
                        refine lv_icmp_ge (tgt := 176) hx hb (dq dt_X9_order 93 rfl) (by decide) (fun c39 => ?_) (fun c39 => ?_)
                        · replace hF := if_t c39 hF
                          refine lv_iload hx hb (dq dt_X9_order 96 rfl) (lv_at hl 5 rfl) ?_
                          exact J35 x23 hF _ _ _ hw (lv_sub hl [1, 2, 3, 4, 6, 7, 0] rfl)
                        · replace hF := if_f c39 hF
                          refine lv_iload hx hb (dq dt_X9_order 94 rfl) (lv_at hl 7 rfl) ?_
                          refine lv_goto (tgt := 178) hx hb (dq dt_X9_order 95 rfl) (by decide) ?_
                          exact J35 x25 hF _ _ _ hw (lv_sub hl [1, 2, 3, 4, 6, 7, 0] rfl)
                  exact L26 _ (0 : Int32) (99 : Int32) (0 : Int32) hF _ _ _ hw (lv_sub hl [3, 4, 6, 7, 2, 1, 0] rfl)
                · replace hF := if_f c22 hF
                  refine lv_iload_n hx hb (dq dt_X9_order 47 rfl) rfl (lv_at hl 2 rfl) ?_
                  refine lv_iload hx hb (dq dt_X9_order 48 rfl) (lv_at hl 5 rfl) ?_
                  obtain ⟨v40, hr41, hF⟩ := zc1_ hF
                  refine kCallSP C hw (A_X9_has l D cB cI cJ cZ ad p2 x16 v40 hr41) (va_cwS 2 C.2.2.2.2.2.2.1 (w0_S0 q5_52 q5_50 q5_51 q1_10) rfl rfl rfl ke_X9_has ⟨Nat.le_of_ble_eq_true rfl, Nat.le_of_ble_eq_true rfl⟩) hl.1 rfl rfl rfl (Nat.le_of_ble_eq_true rfl) ⟨Nat.le_of_ble_eq_true rfl, Nat.le_of_ble_eq_true rfl⟩ (dq dt_X9_order 49 rfl) (fun H locs hw => ?_)
                  refine lv_if_eq (tgt := 132) hx hb (dq dt_X9_order 50 rfl) (by decide) (fun c42 => ?_) (fun c42 => ?_)
                  · replace hF := if_t c42 hF
                    obtain ⟨v43, ev43, hF⟩ := bd_ hF
                    refine lv_iinc (v := v43) (lv' := [(5, .int v43), (0, .ref a_m), (1, .int p1), (2, .int p2), (3, .int p3), (4, .int x15)]) hx hb (dq dt_X9_order 75 rfl) hl (k := 5) rfl ev43.symm (by decide) rfl (fun ls hl => ?_)
                    refine lv_goto (tgt := 71) hx hb (dq dt_X9_order 76 rfl) (by decide) ?_
                    exact ih21 x15 v43 h17 h18 h19 h20 hF _ _ _ hw (lv_sub hl [1, 2, 3, 4, 5, 0] rfl)
                  · replace hF := if_f c42 hF
                    refine lv_aload_n hx hb (dq dt_X9_order 51 rfl) rfl (lv_at hl 0 rfl) ?_
                    refine kGet (ci := 9) C in_X9 hw 0 rfl rfl 23 (by decide) (C.2.2.2.2.2.2.1 _ q4_118) rfl rfl (dq dt_X9_order 52 rfl) ?_
                    refine lv_iload hx hb (dq dt_X9_order 53 rfl) (lv_at hl 5 rfl) ?_
                    refine lv_aload_n hx hb (dq dt_X9_order 54 rfl) rfl (lv_at hl 0 rfl) ?_
                    refine lv_iload hx hb (dq dt_X9_order 55 rfl) (lv_at hl 5 rfl) ?_
                    obtain ⟨v44, g45, hr46, hF⟩ := zc2_ hF
                    refine kCallV (ws2 := [(a_m, .inr (9, [.ref a_m_row, .ref a_m_isKept, .ref a_m_text, .int m_length, .ref a_m_read, .int m_readMany, .int m_yards, .ref a_m_tides, .ref a_m_seeps, .int m_seepMany, .ref a_m_kinds, .ref a_m_paces, .ref a_m_ears, .int m_many, .int m_at, .int m_place, .int m_end, .int m_readYards, .int m_readSeeps, .int m_readChildren, .ref a_m_hearers, .ref a_m_chosen, .int h17, .ref a_m_dues, .ref a_m_sights, .int m_seenMany])), (a_m_row, .inl (cI, 95, .inl g45)), (a_m_tides, .inl (cI, 12, .inl m_tides)), (a_m_seeps, .inl (cI, 18, .inl m_seeps)), (a_m_paces, .inl (cI, 5, .inl m_paces)), (a_m_chosen, .inl (cI, 5, .inl h19)), (a_m_dues, .inl (cI, 6, .inl h20))]) C hw (A_X9_breaksIn l D cB cI cJ cZ ad a_m a_m_row a_m_isKept a_m_text a_m_read a_m_tides a_m_seeps a_m_kinds a_m_paces a_m_ears a_m_hearers a_m_chosen a_m_dues a_m_sights m_length m_readMany m_yards m_seepMany m_many m_at m_place m_end m_readYards m_readSeeps m_readChildren h17 m_seenMany h18 m_tides m_seeps m_paces x16 v44 g45 hr46) (cwV 1 C.2.2.2.2.2.2.1 (w0_V0 q5_102 q5_99 q5_101 (ws0 41 rfl) q1_10) rfl rfl rfl kd_X9_breaksIn ⟨Nat.le_of_ble_eq_true rfl, Nat.le_of_ble_eq_true rfl⟩) [0, 1, 2, 3, 4] rfl rfl rfl rfl 0 9 rfl rfl hl.1 rfl rfl rfl (Nat.le_of_ble_eq_true rfl) ⟨Nat.le_of_ble_eq_true rfl, Nat.le_of_ble_eq_true rfl⟩ (dq dt_X9_order 56 rfl) (fun H locs hw => ?_)
                    obtain ⟨g47, eg47, hi48, hF⟩ := wr_ hF
                    refine kIast (ws' := [(a_m, .inr (9, [.ref a_m_row, .ref a_m_isKept, .ref a_m_text, .int m_length, .ref a_m_read, .int m_readMany, .int m_yards, .ref a_m_tides, .ref a_m_seeps, .int m_seepMany, .ref a_m_kinds, .ref a_m_paces, .ref a_m_ears, .int m_many, .int m_at, .int m_place, .int m_end, .int m_readYards, .int m_readSeeps, .int m_readChildren, .ref a_m_hearers, .ref a_m_chosen, .int h17, .ref a_m_dues, .ref a_m_sights, .int m_seenMany])), (a_m_row, .inl (cI, 95, .inl g45)), (a_m_tides, .inl (cI, 12, .inl m_tides)), (a_m_seeps, .inl (cI, 18, .inl m_seeps)), (a_m_paces, .inl (cI, 5, .inl m_paces)), (a_m_chosen, .inl (cI, 5, .inl h19)), (a_m_dues, .inl (cI, 6, .inl g47))]) C hw 6 1 rfl rfl hi48 eg47 rfl (dq dt_X9_order 57 rfl) (fun H locs hw => ?_)
                    refine lv_aload_n hx hb (dq dt_X9_order 58 rfl) rfl (lv_at hl 0 rfl) ?_
                    refine kGet (ci := 9) C in_X9 hw 0 rfl rfl 21 (by decide) (C.2.2.2.2.2.2.1 _ q4_116) rfl rfl (dq dt_X9_order 59 rfl) ?_
                    refine lv_aload_n hx hb (dq dt_X9_order 60 rfl) rfl (lv_at hl 0 rfl) ?_
                    refine kGet (ci := 9) C in_X9 hw 0 rfl rfl 22 (by decide) (C.2.2.2.2.2.2.1 _ q4_117) rfl rfl (dq dt_X9_order 61 rfl) ?_
                    refine lv_iload hx hb (dq dt_X9_order 62 rfl) (lv_at hl 5 rfl) ?_
                    obtain ⟨g49, eg49, hi50, hF⟩ := wr_ hF
                    refine kIast (ws' := [(a_m, .inr (9, [.ref a_m_row, .ref a_m_isKept, .ref a_m_text, .int m_length, .ref a_m_read, .int m_readMany, .int m_yards, .ref a_m_tides, .ref a_m_seeps, .int m_seepMany, .ref a_m_kinds, .ref a_m_paces, .ref a_m_ears, .int m_many, .int m_at, .int m_place, .int m_end, .int m_readYards, .int m_readSeeps, .int m_readChildren, .ref a_m_hearers, .ref a_m_chosen, .int h17, .ref a_m_dues, .ref a_m_sights, .int m_seenMany])), (a_m_row, .inl (cI, 95, .inl g45)), (a_m_tides, .inl (cI, 12, .inl m_tides)), (a_m_seeps, .inl (cI, 18, .inl m_seeps)), (a_m_paces, .inl (cI, 5, .inl m_paces)), (a_m_chosen, .inl (cI, 5, .inl g49)), (a_m_dues, .inl (cI, 6, .inl g47))]) C hw 5 1 rfl rfl hi50 eg49 rfl (dq dt_X9_order 63 rfl) (fun H locs hw => ?_)
                    refine lv_aload_n hx hb (dq dt_X9_order 64 rfl) rfl (lv_at hl 0 rfl) ?_
                    refine lv_dup hx hb (dq dt_X9_order 65 rfl) rfl ?_
                    refine kGet (ci := 9) C in_X9 hw 0 rfl rfl 22 (by decide) (C.2.2.2.2.2.2.1 _ q4_117) rfl rfl (dq dt_X9_order 66 rfl) ?_
                    refine lv_iconst (v := (1 : Int32)) hx hb (dq dt_X9_order 67 rfl) (by decide) ?_
                    refine lv_iadd hx hb (dq dt_X9_order 68 rfl) ?_
                    obtain ⟨v51, ev51, hF⟩ := bd_ hF
                    refine kNmI ev51 ?_
                    refine kPut (ci := 9) (ws' := [(a_m, .inr (9, [.ref a_m_row, .ref a_m_isKept, .ref a_m_text, .int m_length, .ref a_m_read, .int m_readMany, .int m_yards, .ref a_m_tides, .ref a_m_seeps, .int m_seepMany, .ref a_m_kinds, .ref a_m_paces, .ref a_m_ears, .int m_many, .int m_at, .int m_place, .int m_end, .int m_readYards, .int m_readSeeps, .int m_readChildren, .ref a_m_hearers, .ref a_m_chosen, .int v51, .ref a_m_dues, .ref a_m_sights, .int m_seenMany])), (a_m_row, .inl (cI, 95, .inl g45)), (a_m_tides, .inl (cI, 12, .inl m_tides)), (a_m_seeps, .inl (cI, 18, .inl m_seeps)), (a_m_paces, .inl (cI, 5, .inl m_paces)), (a_m_chosen, .inl (cI, 5, .inl g49)), (a_m_dues, .inl (cI, 6, .inl g47))]) C in_X9 tyX9 tyX9_ok nmX9 hw 0 rfl rfl 22 (by decide) (C.2.2.2.2.2.2.1 _ q4_117) rfl rfl rfl rfl (Nat.le_of_ble_eq_true rfl) rfl (dq dt_X9_order 69 rfl) (fun H locs hw => ?_)
                    refine lv_iload hx hb (dq dt_X9_order 70 rfl) (lv_at hl 4 rfl) ?_
                    refine lv_aload_n hx hb (dq dt_X9_order 71 rfl) rfl (lv_at hl 0 rfl) ?_
                    refine kGet (ci := 9) C in_X9 hw 0 rfl rfl 22 (by decide) (C.2.2.2.2.2.2.1 _ q4_117) rfl rfl (dq dt_X9_order 72 rfl) ?_
                    refine lv_imul hx hb (dq dt_X9_order 73 rfl) ?_
                    obtain ⟨v52, ev52, hF⟩ := bd_ hF
                    refine kNmI ev52 ?_
                    refine lv_istore (lv' := [(4, .int v52), (0, .ref a_m), (1, .int p1), (2, .int p2), (3, .int p3), (5, .int x16)]) hx hb (dq dt_X9_order 74 rfl) hl (by decide) rfl (fun ls hl => ?_)
                    obtain ⟨v53, ev53, hF⟩ := bd_ hF
                    refine lv_iinc (v := v53) (lv' := [(5, .int v53), (4, .int v52), (0, .ref a_m), (1, .int p1), (2, .int p2), (3, .int p3)]) hx hb (dq dt_X9_order 75 rfl) hl (k := 5) rfl ev53.symm (by decide) rfl (fun ls hl => ?_)
                    refine lv_goto (tgt := 71) hx hb (dq dt_X9_order 76 rfl) (by decide) ?_
                    exact ih21 v52 v53 v51 g45 g49 g47 hF _ _ _ hw (lv_sub hl [2, 3, 4, 5, 1, 0] rfl)
            exact L21 _ (1 : Int32) (0 : Int32) (0 : Int32) m_row m_chosen m_dues hF _ _ _ hw (lv_sub hl [2, 3, 4, 5, 1, 0] rfl)
          · replace hF := if_f c14 hF
            refine lv_bipush (v := (-4 : Int32)) hx hb (dq dt_X9_order 34 rfl) (by decide) ?_
            cases hF
            exact kRetI hQ C hw (dq dt_X9_order 35 rfl)
      · replace hF := if_f c8 hF
        refine lv_bipush (v := (-3 : Int32)) hx hb (dq dt_X9_order 21 rfl) (by decide) ?_
        cases hF
        exact kRetI hQ C hw (dq dt_X9_order 22 rfl)
    · replace hF := if_t c7 hF
      refine lv_bipush (v := (-2 : Int32)) hx hb (dq dt_X9_order 16 rfl) (by decide) ?_
      cases hF
      exact kRetI hQ C hw (dq dt_X9_order 17 rfl)
def F_X9_power (p1 : Int64) (p2 : Int32) : Option (Int64) :=
  zl2 (fun x1 x2 ag3 => if p2 ≤ x2 then (some x1) else (bd (x1 * p1) (fun v5 => bd (x2 + (1 : Int32)) (fun v6 => ag3 v5 v6)))) FU (1 : Int64) (0 : Int32)
abbrev rm_X9_power : Room := { frames := 0, cells := 0, slots := 0, locals := 0 }
theorem ke_X9_power : yX9_power.cls ≠ "java/lang/invoke/MethodHandle" ∧ yX9_power.cls ≠ "java/lang/invoke/VarHandle" ∧ (parseMethodDescriptor yX9_power.desc).map (fun d => d.parameters.length) = some 2 := by decide +kernel
set_option maxRecDepth 100000 in
set_option maxHeartbeats 4000000 in
theorem A_X9_power (l : Launch) (D : va_G) (cB cI cJ cZ : ClassId) (ad : (Nat → Nat) × (Nat → Nat)) (p1 : Int64) (p2 : Int32) (r : Int64) (hF : F_X9_power p1 p2 = some r) : kM l yX9_power (Cond.code yX9_power cX9_power 6 (some .long) :: W0) rm_X9_power D (kT cB cI cJ cZ) ad [.long p1, .int p2] [] (some (.long r)) [] := by
  unfold F_X9_power at hF
  refine kStart (lv := [(0, .long p1), (2, .int p2)]) (own := "DikeWatchModel") (plainFor_of_name (by decide)) rfl (Nat.le_of_ble_eq_true rfl) rfl ?_
  intro p e s m args below meth c A Q ls hQ C hx hb hw hl
  refine lv_lconst (v := (1 : Int64)) hx hb (dq dt_X9_power 0 rfl) (by decide) ?_
  refine lv_lstore_n (lv' := [(3, .long (1 : Int64)), (0, .long p1), (2, .int p2)]) hx hb (dq dt_X9_power 1 rfl) rfl hl (by decide) rfl (fun ls hl => ?_)
  refine lv_iconst (v := (0 : Int32)) hx hb (dq dt_X9_power 2 rfl) (by decide) ?_
  refine lv_istore (lv' := [(5, .int (0 : Int32)), (3, .long (1 : Int64)), (0, .long p1), (2, .int p2)]) hx hb (dq dt_X9_power 3 rfl) hl (by decide) rfl (fun ls hl => ?_)
  obtain ⟨K3, hK03, hK3, hF⟩ := zl2_ hF
  have L3 : ∀ (n : Nat) (x1 : Int64) (x2 : Int32), K3 n x1 x2 = some r → ∀ (H : Heap) (locs : List Loc) (ls : Array Slot), kW D A s.heap [] H locs → lv_has ls 6 [(0, .long p1), (2, .int p2), (3, .long x1), (5, .int x2)] → W p l e rm_X9_power s m args below meth c H locs 0 0 Q (F0 m 5 ls []) := by
    intro n
    induction n with
    | zero => intro x1 x2 hF; exact (lp_no (hK03 x1 x2) hF).elim
    | succ n ih3 =>
      intro x1 x2 hF H locs ls hw hl
      replace hF := hK3 n x1 x2 hF
      refine lv_iload hx hb (dq dt_X9_power 4 rfl) (lv_at hl 3 rfl) ?_
      refine lv_iload_n hx hb (dq dt_X9_power 5 rfl) rfl (lv_at hl 1 rfl) ?_
      refine lv_icmp_ge (tgt := 21) hx hb (dq dt_X9_power 6 rfl) (by decide) (fun c4 => ?_) (fun c4 => ?_)
      · replace hF := if_t c4 hF
        refine lv_lload_n hx hb (dq dt_X9_power 13 rfl) rfl (lv_at hl 2 rfl) ?_
        cases hF
        exact kRetL hQ C hw (dq dt_X9_power 14 rfl)
      · replace hF := if_f c4 hF
        refine lv_lload_n hx hb (dq dt_X9_power 7 rfl) rfl (lv_at hl 2 rfl) ?_
        refine lv_lload_n hx hb (dq dt_X9_power 8 rfl) rfl (lv_at hl 0 rfl) ?_
        refine lv_lmul hx hb (dq dt_X9_power 9 rfl) ?_
        obtain ⟨v5, ev5, hF⟩ := bd_ hF
        refine kNmL ev5 ?_
        refine lv_lstore_n (lv' := [(3, .long v5), (0, .long p1), (2, .int p2), (5, .int x2)]) hx hb (dq dt_X9_power 10 rfl) rfl hl (by decide) rfl (fun ls hl => ?_)
        obtain ⟨v6, ev6, hF⟩ := bd_ hF
        refine lv_iinc (v := v6) (lv' := [(5, .int v6), (3, .long v5), (0, .long p1), (2, .int p2)]) hx hb (dq dt_X9_power 11 rfl) hl (k := 3) rfl ev6.symm (by decide) rfl (fun ls hl => ?_)
        refine lv_goto (tgt := 5) hx hb (dq dt_X9_power 12 rfl) (by decide) ?_
        exact ih3 v5 v6 hF _ _ _ hw (lv_sub hl [2, 3, 1, 0] rfl)
  exact L3 _ (1 : Int64) (0 : Int32) hF _ _ _ hw (lv_sub hl [2, 3, 1, 0] rfl)
def F_X9_growths (m_row : Nat → Int32) (m_seeps : Nat → Int32) (p1 : Int32) : Option (Int32) :=
  rd 18 m_seeps (((3 : Int32) * p1) + (1 : Int32)) (fun v1 => rd 95 m_row p1 (fun v3 => bd ((100 : Int32) - v3) (fun v5 => if v5 = 0 then (some (0 : Int32)) else (if v1 = 0 then (some (999 : Int32)) else (ckI v1 (some (((v5 + v1) - (1 : Int32)) / v1)))))))
abbrev rm_X9_growths : Room := { frames := 0, cells := 0, slots := 0, locals := 0 }
theorem kd_X9_growths : yX9_growths.cls = RX9 ∧ yX9_growths.cls ≠ "java/lang/invoke/MethodHandle" ∧ yX9_growths.cls ≠ "java/lang/invoke/VarHandle" ∧ (parseMethodDescriptor yX9_growths.desc).map (fun d => d.parameters.length) = some 1 := by decide +kernel
set_option maxRecDepth 100000 in
set_option maxHeartbeats 4000000 in
theorem A_X9_growths (l : Launch) (D : va_G) (cB cI cJ cZ : ClassId) (ad : (Nat → Nat) × (Nat → Nat)) (a_m a_m_row a_m_isKept a_m_text a_m_read a_m_tides a_m_seeps a_m_kinds a_m_paces a_m_ears a_m_hearers a_m_chosen a_m_dues a_m_sights : Nat) (m_length : Int32) (m_readMany : Int32) (m_yards : Int32) (m_seepMany : Int32) (m_many : Int32) (m_at : Int32) (m_place : Int32) (m_end : Int32) (m_readYards : Int32) (m_readSeeps : Int32) (m_readChildren : Int32) (m_chosenMany : Int32) (m_seenMany : Int32) (m_row : Nat → Int32) (m_seeps : Nat → Int32) (p1 : Int32) (r : Int32) (hF : F_X9_growths m_row m_seeps p1 = some r) : kM l yX9_growths (Cond.code yX9_growths cX9_growths 4 (some .int) :: W0) rm_X9_growths D (kT cB cI cJ cZ) ad [.ref a_m, .int p1] [(a_m, .inr (9, [.ref a_m_row, .ref a_m_isKept, .ref a_m_text, .int m_length, .ref a_m_read, .int m_readMany, .int m_yards, .ref a_m_tides, .ref a_m_seeps, .int m_seepMany, .ref a_m_kinds, .ref a_m_paces, .ref a_m_ears, .int m_many, .int m_at, .int m_place, .int m_end, .int m_readYards, .int m_readSeeps, .int m_readChildren, .ref a_m_hearers, .ref a_m_chosen, .int m_chosenMany, .ref a_m_dues, .ref a_m_sights, .int m_seenMany])), (a_m_row, .inl (cI, 95, .inl m_row)), (a_m_seeps, .inl (cI, 18, .inl m_seeps))] (some (.int r)) [(a_m, .inr (9, [.ref a_m_row, .ref a_m_isKept, .ref a_m_text, .int m_length, .ref a_m_read, .int m_readMany, .int m_yards, .ref a_m_tides, .ref a_m_seeps, .int m_seepMany, .ref a_m_kinds, .ref a_m_paces, .ref a_m_ears, .int m_many, .int m_at, .int m_place, .int m_end, .int m_readYards, .int m_readSeeps, .int m_readChildren, .ref a_m_hearers, .ref a_m_chosen, .int m_chosenMany, .ref a_m_dues, .ref a_m_sights, .int m_seenMany])), (a_m_row, .inl (cI, 95, .inl m_row)), (a_m_seeps, .inl (cI, 18, .inl m_seeps))] := by
  unfold F_X9_growths at hF
  refine kStart (lv := [(0, .ref a_m), (1, .int p1)]) (own := "DikeWatchModel") (plainFor_of_name (by decide)) rfl (Nat.le_of_ble_eq_true rfl) rfl ?_
  intro p e s m args below meth c A Q ls hQ C hx hb hw hl
  refine lv_aload_n hx hb (dq dt_X9_growths 0 rfl) rfl (lv_at hl 0 rfl) ?_
  refine kGet (ci := 9) C in_X9 hw 0 rfl rfl 8 (by decide) (C.2.2.2.2.2.2.1 _ q4_103) rfl rfl (dq dt_X9_growths 1 rfl) ?_
  refine lv_iconst (v := (3 : Int32)) hx hb (dq dt_X9_growths 2 rfl) (by decide) ?_
  refine lv_iload_n hx hb (dq dt_X9_growths 3 rfl) rfl (lv_at hl 1 rfl) ?_
  refine lv_imul hx hb (dq dt_X9_growths 4 rfl) ?_
  refine lv_iconst (v := (1 : Int32)) hx hb (dq dt_X9_growths 5 rfl) (by decide) ?_
  refine lv_iadd hx hb (dq dt_X9_growths 6 rfl) ?_
  obtain ⟨v1, ev1, hi2, hF⟩ := rd_ hF
  refine kIald C hw 2 1 rfl rfl hi2 ev1 (dq dt_X9_growths 7 rfl) ?_
  refine lv_istore_n (lv' := [(2, .int v1), (0, .ref a_m), (1, .int p1)]) hx hb (dq dt_X9_growths 8 rfl) rfl hl (by decide) rfl (fun ls hl => ?_)
  refine lv_bipush (v := (100 : Int32)) hx hb (dq dt_X9_growths 9 rfl) (by decide) ?_
  refine lv_aload_n hx hb (dq dt_X9_growths 10 rfl) rfl (lv_at hl 1 rfl) ?_
  refine kGet (ci := 9) C in_X9 hw 0 rfl rfl 0 (by decide) (C.2.2.2.2.2.2.1 _ q4_95) rfl rfl (dq dt_X9_growths 11 rfl) ?_
  refine lv_iload_n hx hb (dq dt_X9_growths 12 rfl) rfl (lv_at hl 2 rfl) ?_
  obtain ⟨v3, ev3, hi4, hF⟩ := rd_ hF
  refine kIald C hw 1 1 rfl rfl hi4 ev3 (dq dt_X9_growths 13 rfl) ?_
  refine lv_isub hx hb (dq dt_X9_growths 14 rfl) ?_
  obtain ⟨v5, ev5, hF⟩ := bd_ hF
  refine kNmI ev5 ?_
  refine lv_istore_n (lv' := [(3, .int v5), (2, .int v1), (0, .ref a_m), (1, .int p1)]) hx hb (dq dt_X9_growths 15 rfl) rfl hl (by decide) rfl (fun ls hl => ?_)
  refine lv_iload_n hx hb (dq dt_X9_growths 16 rfl) rfl (lv_at hl 0 rfl) ?_
  refine lv_if_ne (tgt := 29) hx hb (dq dt_X9_growths 17 rfl) (by decide) (fun c6 => ?_) (fun c6 => ?_)
  · replace hF := if_f c6 hF
    refine lv_iload_n hx hb (dq dt_X9_growths 20 rfl) rfl (lv_at hl 1 rfl) ?_
    refine lv_if_ne (tgt := 39) hx hb (dq dt_X9_growths 21 rfl) (by decide) (fun c7 => ?_) (fun c7 => ?_)
    · replace hF := if_f c7 hF
      refine lv_iload_n hx hb (dq dt_X9_growths 24 rfl) rfl (lv_at hl 0 rfl) ?_
      refine lv_iload_n hx hb (dq dt_X9_growths 25 rfl) rfl (lv_at hl 1 rfl) ?_
      refine lv_iadd hx hb (dq dt_X9_growths 26 rfl) ?_
      refine lv_iconst (v := (1 : Int32)) hx hb (dq dt_X9_growths 27 rfl) (by decide) ?_
      refine lv_isub hx hb (dq dt_X9_growths 28 rfl) ?_
      refine lv_iload_n hx hb (dq dt_X9_growths 29 rfl) rfl (lv_at hl 1 rfl) ?_
      obtain ⟨hz8, hF⟩ := ckI_ hF
      refine lv_idiv hx hb (dq dt_X9_growths 30 rfl) hz8 ?_
      cases hF
      exact kRetI hQ C hw (dq dt_X9_growths 31 rfl)
    · replace hF := if_t c7 hF
      refine lv_sipush (v := (999 : Int32)) hx hb (dq dt_X9_growths 22 rfl) (by decide) ?_
      refine lv_goto (tgt := 46) hx hb (dq dt_X9_growths 23 rfl) (by decide) ?_
      cases hF
      exact kRetI hQ C hw (dq dt_X9_growths 31 rfl)
  · replace hF := if_t c6 hF
    refine lv_iconst (v := (0 : Int32)) hx hb (dq dt_X9_growths 18 rfl) (by decide) ?_
    refine lv_goto (tgt := 46) hx hb (dq dt_X9_growths 19 rfl) (by decide) ?_
    cases hF
    exact kRetI hQ C hw (dq dt_X9_growths 31 rfl)
def F_X9_storms (m_seepMany : Int32) (m_row : Nat → Int32) (m_seeps : Nat → Int32) (p1 : Int32) (p2 : Int32) (p3 : Int32) (p4 : Int32) : Option (Int64) :=
  zc1 (F_X9_isSeep m_seepMany p1) (fun v1 => if v1 = 0 then (some (-2 : Int64)) else (zc1 (F_X9_in (p2.toInt64) (0 : Int64) (18 : Int64)) (fun v4 => if v4 = 0 then (some (-3 : Int64)) else (zc1 (F_X9_in (p3.toInt64) (0 : Int64) (10 : Int64)) (fun v7 => if v7 = 0 then (some (-3 : Int64)) else (zc1 (F_X9_in (p4.toInt64) (0 : Int64) (1 : Int64)) (fun v10 => if v10 = 0 then (some (-3 : Int64)) else (rd 95 m_row (6 : Int32) (fun v13 => zc1 (F_X9_has v13 p1) (fun v15 => if v15 = 0 then (zl3 (fun x18 x19 x20 ag21 => if p2 < x20 then (zc1 (F_X9_power (10 : Int64) p2) (fun v23 => zl2 (fun x25 x26 ag27 => if (lg_cmp x26 (0 : Int64)) = 0 then (if p4 = 0 then (ckL x25 (some (x18 / x25))) else (ckL x25 (some (v23 / x25)))) else (ckL x26 (bd (x25 - x25 / x26 * x26) (fun v33 => ag27 x26 v33)))) FU x18 v23)) else (zc1 (F_X9_growths m_row m_seeps p1) (fun v34 => zj1 (fun y36 => bd (x18 + y36) (fun v38 => ckL ((x20 + (1 : Int32)).toInt64) (bd ((x19 * ((p2 - x20).toInt64)) / ((x20 + (1 : Int32)).toInt64)) (fun v40 => bd (x20 + (1 : Int32)) (fun v41 => ag21 v38 v40 v41))))) (fun K37 => if x20 < v34 then (K37 (0 : Int64)) else (zc1 (F_X9_power (p3.toInt64) x20) (fun v43 => bd (p2 - x20) (fun v45 => zc1 (F_X9_power ((10 : Int64) - (p3.toInt64)) v45) (fun v46 => K37 ((x19 * v43) * v46))))))))) FU (0 : Int64) (1 : Int64) (0 : Int32)) else (some (-4 : Int64))))))))))))
abbrev rm_X9_storms : Room := { frames := 2, cells := 0, slots := 0, locals := 46 }
theorem kd_X9_storms : yX9_storms.cls = RX9 ∧ yX9_storms.cls ≠ "java/lang/invoke/MethodHandle" ∧ yX9_storms.cls ≠ "java/lang/invoke/VarHandle" ∧ (parseMethodDescriptor yX9_storms.desc).map (fun d => d.parameters.length) = some 4 := by decide +kernel
set_option maxRecDepth 100000 in
set_option maxHeartbeats 4000000 in
theorem A_X9_storms (l : Launch) (D : va_G) (cB cI cJ cZ : ClassId) (ad : (Nat → Nat) × (Nat → Nat)) (a_m a_m_row a_m_isKept a_m_text a_m_read a_m_tides a_m_seeps a_m_kinds a_m_paces a_m_ears a_m_hearers a_m_chosen a_m_dues a_m_sights : Nat) (m_length : Int32) (m_readMany : Int32) (m_yards : Int32) (m_seepMany : Int32) (m_many : Int32) (m_at : Int32) (m_place : Int32) (m_end : Int32) (m_readYards : Int32) (m_readSeeps : Int32) (m_readChildren : Int32) (m_chosenMany : Int32) (m_seenMany : Int32) (m_row : Nat → Int32) (m_seeps : Nat → Int32) (p1 : Int32) (p2 : Int32) (p3 : Int32) (p4 : Int32) (r : Int64) (hF : F_X9_storms m_seepMany m_row m_seeps p1 p2 p3 p4 = some r) : kM l yX9_storms (Cond.code yX9_storms cX9_storms 17 (some .long) :: W0) rm_X9_storms D (kT cB cI cJ cZ) ad [.ref a_m, .int p1, .int p2, .int p3, .int p4] [(a_m, .inr (9, [.ref a_m_row, .ref a_m_isKept, .ref a_m_text, .int m_length, .ref a_m_read, .int m_readMany, .int m_yards, .ref a_m_tides, .ref a_m_seeps, .int m_seepMany, .ref a_m_kinds, .ref a_m_paces, .ref a_m_ears, .int m_many, .int m_at, .int m_place, .int m_end, .int m_readYards, .int m_readSeeps, .int m_readChildren, .ref a_m_hearers, .ref a_m_chosen, .int m_chosenMany, .ref a_m_dues, .ref a_m_sights, .int m_seenMany])), (a_m_row, .inl (cI, 95, .inl m_row)), (a_m_seeps, .inl (cI, 18, .inl m_seeps))] (some (.long r)) [(a_m, .inr (9, [.ref a_m_row, .ref a_m_isKept, .ref a_m_text, .int m_length, .ref a_m_read, .int m_readMany, .int m_yards, .ref a_m_tides, .ref a_m_seeps, .int m_seepMany, .ref a_m_kinds, .ref a_m_paces, .ref a_m_ears, .int m_many, .int m_at, .int m_place, .int m_end, .int m_readYards, .int m_readSeeps, .int m_readChildren, .ref a_m_hearers, .ref a_m_chosen, .int m_chosenMany, .ref a_m_dues, .ref a_m_sights, .int m_seenMany])), (a_m_row, .inl (cI, 95, .inl m_row)), (a_m_seeps, .inl (cI, 18, .inl m_seeps))] := by
  unfold F_X9_storms at hF
  refine kStart (lv := [(0, .ref a_m), (1, .int p1), (2, .int p2), (3, .int p3), (4, .int p4)]) (own := "DikeWatchModel") (plainFor_of_name (by decide)) rfl (Nat.le_of_ble_eq_true rfl) rfl ?_
  intro p e s m args below meth c A Q ls hQ C hx hb hw hl
  refine lv_aload_n hx hb (dq dt_X9_storms 0 rfl) rfl (lv_at hl 0 rfl) ?_
  refine lv_iload_n hx hb (dq dt_X9_storms 1 rfl) rfl (lv_at hl 1 rfl) ?_
  obtain ⟨v1, hr2, hF⟩ := zc1_ hF
  refine kCallVR C hw (A_X9_isSeep l D cB cI cJ cZ ad a_m a_m_row a_m_isKept a_m_text a_m_read a_m_tides a_m_seeps a_m_kinds a_m_paces a_m_ears a_m_hearers a_m_chosen a_m_dues a_m_sights m_length m_readMany m_yards m_seepMany m_many m_at m_place m_end m_readYards m_readSeeps m_readChildren m_chosenMany m_seenMany p1 v1 hr2) (cwV 1 C.2.2.2.2.2.2.1 (w0_V0 q5_25 q5_22 q5_24 (ws0 32 rfl) q1_10) rfl rfl rfl kd_X9_isSeep ⟨Nat.le_of_ble_eq_true rfl, Nat.le_of_ble_eq_true rfl⟩) [0] rfl rfl 0 9 rfl rfl hl.1 rfl rfl rfl (Nat.le_of_ble_eq_true rfl) ⟨Nat.le_of_ble_eq_true rfl, Nat.le_of_ble_eq_true rfl⟩ (dq dt_X9_storms 2 rfl) (fun H locs hw => ?_)
  refine lv_if_ne (tgt := 12) hx hb (dq dt_X9_storms 3 rfl) (by decide) (fun c3 => ?_) (fun c3 => ?_)
  · replace hF := if_f c3 hF
    refine lv_iload_n hx hb (dq dt_X9_storms 6 rfl) rfl (lv_at hl 2 rfl) ?_
    refine lv_i2l (v := (p2.toInt64)) hx hb (dq dt_X9_storms 7 rfl) rfl ?_
    refine lv_lconst (v := (0 : Int64)) hx hb (dq dt_X9_storms 8 rfl) (by decide) ?_
    refine lv_ldc2 (v := (18 : Int64)) hx hb C.2.2.2.2.2.1 (C.2.2.2.2.2.2.1 _ q5_143) (dq dt_X9_storms 9 rfl) ?_
    obtain ⟨v4, hr5, hF⟩ := zc1_ hF
    refine kCallSP C hw (A_X9_in l D cB cI cJ cZ ad (p2.toInt64) (0 : Int64) (18 : Int64) v4 hr5) (va_cwS 3 C.2.2.2.2.2.2.1 (w0_S0 q4_182 q4_180 q4_181 q1_10) rfl rfl rfl ke_X9_in ⟨Nat.le_of_ble_eq_true rfl, Nat.le_of_ble_eq_true rfl⟩) hl.1 rfl rfl rfl (Nat.le_of_ble_eq_true rfl) ⟨Nat.le_of_ble_eq_true rfl, Nat.le_of_ble_eq_true rfl⟩ (dq dt_X9_storms 10 rfl) (fun H locs hw => ?_)
    refine lv_if_eq (tgt := 47) hx hb (dq dt_X9_storms 11 rfl) (by decide) (fun c6 => ?_) (fun c6 => ?_)
    · replace hF := if_t c6 hF
      refine lv_ldc2 (v := (-3 : Int64)) hx hb C.2.2.2.2.2.1 (C.2.2.2.2.2.2.1 _ q5_145) (dq dt_X9_storms 24 rfl) ?_
      cases hF
      exact kRetL hQ C hw (dq dt_X9_storms 25 rfl)
    · replace hF := if_f c6 hF
      refine lv_iload_n hx hb (dq dt_X9_storms 12 rfl) rfl (lv_at hl 3 rfl) ?_
      refine lv_i2l (v := (p3.toInt64)) hx hb (dq dt_X9_storms 13 rfl) rfl ?_
      refine lv_lconst (v := (0 : Int64)) hx hb (dq dt_X9_storms 14 rfl) (by decide) ?_
      refine lv_ldc2 (v := (10 : Int64)) hx hb C.2.2.2.2.2.1 (C.2.2.2.2.2.2.1 _ q5_144) (dq dt_X9_storms 15 rfl) ?_
      obtain ⟨v7, hr8, hF⟩ := zc1_ hF
      refine kCallSP C hw (A_X9_in l D cB cI cJ cZ ad (p3.toInt64) (0 : Int64) (10 : Int64) v7 hr8) (va_cwS 3 C.2.2.2.2.2.2.1 (w0_S0 q4_182 q4_180 q4_181 q1_10) rfl rfl rfl ke_X9_in ⟨Nat.le_of_ble_eq_true rfl, Nat.le_of_ble_eq_true rfl⟩) hl.1 rfl rfl rfl (Nat.le_of_ble_eq_true rfl) ⟨Nat.le_of_ble_eq_true rfl, Nat.le_of_ble_eq_true rfl⟩ (dq dt_X9_storms 16 rfl) (fun H locs hw => ?_)
      refine lv_if_eq (tgt := 47) hx hb (dq dt_X9_storms 17 rfl) (by decide) (fun c9 => ?_) (fun c9 => ?_)
      · replace hF := if_t c9 hF
        refine lv_ldc2 (v := (-3 : Int64)) hx hb C.2.2.2.2.2.1 (C.2.2.2.2.2.2.1 _ q5_145) (dq dt_X9_storms 24 rfl) ?_
        cases hF
        exact kRetL hQ C hw (dq dt_X9_storms 25 rfl)
      · replace hF := if_f c9 hF
        refine lv_iload hx hb (dq dt_X9_storms 18 rfl) (lv_at hl 4 rfl) ?_
        refine lv_i2l (v := (p4.toInt64)) hx hb (dq dt_X9_storms 19 rfl) rfl ?_
        refine lv_lconst (v := (0 : Int64)) hx hb (dq dt_X9_storms 20 rfl) (by decide) ?_
        refine lv_lconst (v := (1 : Int64)) hx hb (dq dt_X9_storms 21 rfl) (by decide) ?_
        obtain ⟨v10, hr11, hF⟩ := zc1_ hF
        refine kCallSP C hw (A_X9_in l D cB cI cJ cZ ad (p4.toInt64) (0 : Int64) (1 : Int64) v10 hr11) (va_cwS 3 C.2.2.2.2.2.2.1 (w0_S0 q4_182 q4_180 q4_181 q1_10) rfl rfl rfl ke_X9_in ⟨Nat.le_of_ble_eq_true rfl, Nat.le_of_ble_eq_true rfl⟩) hl.1 rfl rfl rfl (Nat.le_of_ble_eq_true rfl) ⟨Nat.le_of_ble_eq_true rfl, Nat.le_of_ble_eq_true rfl⟩ (dq dt_X9_storms 22 rfl) (fun H locs hw => ?_)
        refine lv_if_ne (tgt := 51) hx hb (dq dt_X9_storms 23 rfl) (by decide) (fun c12 => ?_) (fun c12 => ?_)
        · replace hF := if_f c12 hF
          refine lv_aload_n hx hb (dq dt_X9_storms 26 rfl) rfl (lv_at hl 0 rfl) ?_
          refine kGet (ci := 9) C in_X9 hw 0 rfl rfl 0 (by decide) (C.2.2.2.2.2.2.1 _ q4_95) rfl rfl (dq dt_X9_storms 27 rfl) ?_
          refine lv_bipush (v := (6 : Int32)) hx hb (dq dt_X9_storms 28 rfl) (by decide) ?_
          obtain ⟨v13, ev13, hi14, hF⟩ := rd_ hF
          refine kIald C hw 1 1 rfl rfl hi14 ev13 (dq dt_X9_storms 29 rfl) ?_
          refine lv_iload_n hx hb (dq dt_X9_storms 30 rfl) rfl (lv_at hl 1 rfl) ?_
          obtain ⟨v15, hr16, hF⟩ := zc1_ hF
          refine kCallSP C hw (A_X9_has l D cB cI cJ cZ ad v13 p1 v15 hr16) (va_cwS 2 C.2.2.2.2.2.2.1 (w0_S0 q5_52 q5_50 q5_51 q1_10) rfl rfl rfl ke_X9_has ⟨Nat.le_of_ble_eq_true rfl, Nat.le_of_ble_eq_true rfl⟩) hl.1 rfl rfl rfl (Nat.le_of_ble_eq_true rfl) ⟨Nat.le_of_ble_eq_true rfl, Nat.le_of_ble_eq_true rfl⟩ (dq dt_X9_storms 31 rfl) (fun H locs hw => ?_)
          refine lv_if_eq (tgt := 69) hx hb (dq dt_X9_storms 32 rfl) (by decide) (fun c17 => ?_) (fun c17 => ?_)
          · replace hF := if_t c17 hF
            refine lv_lconst (v := (0 : Int64)) hx hb (dq dt_X9_storms 35 rfl) (by decide) ?_
            refine lv_lstore (lv' := [(5, .long (0 : Int64)), (0, .ref a_m), (1, .int p1), (2, .int p2), (3, .int p3), (4, .int p4)]) hx hb (dq dt_X9_storms 36 rfl) hl (by decide) rfl (fun ls hl => ?_)
            refine lv_lconst (v := (1 : Int64)) hx hb (dq dt_X9_storms 37 rfl) (by decide) ?_
            refine lv_lstore (lv' := [(7, .long (1 : Int64)), (5, .long (0 : Int64)), (0, .ref a_m), (1, .int p1), (2, .int p2), (3, .int p3), (4, .int p4)]) hx hb (dq dt_X9_storms 38 rfl) hl (by decide) rfl (fun ls hl => ?_)
            refine lv_iconst (v := (0 : Int32)) hx hb (dq dt_X9_storms 39 rfl) (by decide) ?_
            refine lv_istore (lv' := [(9, .int (0 : Int32)), (7, .long (1 : Int64)), (5, .long (0 : Int64)), (0, .ref a_m), (1, .int p1), (2, .int p2), (3, .int p3), (4, .int p4)]) hx hb (dq dt_X9_storms 40 rfl) hl (by decide) rfl (fun ls hl => ?_)
            obtain ⟨K21, hK021, hK21, hF⟩ := zl3_ hF
            have L21 : ∀ (n : Nat) (x18 : Int64) (x19 : Int64) (x20 : Int32), K21 n x18 x19 x20 = some r → ∀ (H : Heap) (locs : List Loc) (ls : Array Slot), kW D A s.heap [(a_m, .inr (9, [.ref a_m_row, .ref a_m_isKept, .ref a_m_text, .int m_length, .ref a_m_read, .int m_readMany, .int m_yards, .ref a_m_tides, .ref a_m_seeps, .int m_seepMany, .ref a_m_kinds, .ref a_m_paces, .ref a_m_ears, .int m_many, .int m_at, .int m_place, .int m_end, .int m_readYards, .int m_readSeeps, .int m_readChildren, .ref a_m_hearers, .ref a_m_chosen, .int m_chosenMany, .ref a_m_dues, .ref a_m_sights, .int m_seenMany])), (a_m_row, .inl (cI, 95, .inl m_row)), (a_m_seeps, .inl (cI, 18, .inl m_seeps))] H locs → lv_has ls 17 [(0, .ref a_m), (1, .int p1), (2, .int p2), (3, .int p3), (4, .int p4), (5, .long x18), (7, .long x19), (9, .int x20)] → W p l e rm_X9_storms s m args below meth c H locs 0 0 Q (F0 m 78 ls []) := by
              intro n
              induction n with
              | zero => intro x18 x19 x20 hF; exact (lp_no (hK021 x18 x19 x20) hF).elim
              | succ n ih21 =>
                intro x18 x19 x20 hF H locs ls hw hl
                replace hF := hK21 n x18 x19 x20 hF
                refine lv_iload hx hb (dq dt_X9_storms 41 rfl) (lv_at hl 7 rfl) ?_
                refine lv_iload_n hx hb (dq dt_X9_storms 42 rfl) rfl (lv_at hl 2 rfl) ?_
                refine lv_icmp_gt (tgt := 149) hx hb (dq dt_X9_storms 43 rfl) (by decide) (fun c22 => ?_) (fun c22 => ?_)
                · replace hF := if_t c22 hF
                  refine lv_ldc2 (v := (10 : Int64)) hx hb C.2.2.2.2.2.1 (C.2.2.2.2.2.2.1 _ q5_144) (dq dt_X9_storms 83 rfl) ?_
                  refine lv_iload_n hx hb (dq dt_X9_storms 84 rfl) rfl (lv_at hl 2 rfl) ?_
                  obtain ⟨v23, hr24, hF⟩ := zc1_ hF
                  refine kCallSP C hw (A_X9_power l D cB cI cJ cZ ad (10 : Int64) p2 v23 hr24) (va_cwS 2 C.2.2.2.2.2.2.1 (w0_S0 q5_153 q5_151 q5_152 q1_10) rfl rfl rfl ke_X9_power ⟨Nat.le_of_ble_eq_true rfl, Nat.le_of_ble_eq_true rfl⟩) hl.1 rfl rfl rfl (Nat.le_of_ble_eq_true rfl) ⟨Nat.le_of_ble_eq_true rfl, Nat.le_of_ble_eq_true rfl⟩ (dq dt_X9_storms 85 rfl) (fun H locs hw => ?_)
                  refine lv_lstore (lv' := [(9, .long v23), (0, .ref a_m), (1, .int p1), (2, .int p2), (3, .int p3), (4, .int p4), (5, .long x18), (7, .long x19)]) hx hb (dq dt_X9_storms 86 rfl) hl (by decide) rfl (fun ls hl => ?_)
                  refine lv_lload hx hb (dq dt_X9_storms 87 rfl) (lv_at hl 6 rfl) ?_
                  refine lv_lstore (lv' := [(11, .long x18), (9, .long v23), (0, .ref a_m), (1, .int p1), (2, .int p2), (3, .int p3), (4, .int p4), (5, .long x18), (7, .long x19)]) hx hb (dq dt_X9_storms 88 rfl) hl (by decide) rfl (fun ls hl => ?_)
                  refine lv_lload hx hb (dq dt_X9_storms 89 rfl) (lv_at hl 1 rfl) ?_
                  refine lv_lstore (lv' := [(13, .long v23), (11, .long x18), (9, .long v23), (0, .ref a_m), (1, .int p1), (2, .int p2), (3, .int p3), (4, .int p4), (5, .long x18), (7, .long x19)]) hx hb (dq dt_X9_storms 90 rfl) hl (by decide) rfl (fun ls hl => ?_)
                  obtain ⟨K27, hK027, hK27, hF⟩ := zl2_ hF
                  have L27 : ∀ (n : Nat) (x25 : Int64) (x26 : Int64), K27 n x25 x26 = some r → ∀ (H : Heap) (locs : List Loc) (ls : Array Slot), kW D A s.heap [(a_m, .inr (9, [.ref a_m_row, .ref a_m_isKept, .ref a_m_text, .int m_length, .ref a_m_read, .int m_readMany, .int m_yards, .ref a_m_tides, .ref a_m_seeps, .int m_seepMany, .ref a_m_kinds, .ref a_m_paces, .ref a_m_ears, .int m_many, .int m_at, .int m_place, .int m_end, .int m_readYards, .int m_readSeeps, .int m_readChildren, .ref a_m_hearers, .ref a_m_chosen, .int m_chosenMany, .ref a_m_dues, .ref a_m_sights, .int m_seenMany])), (a_m_row, .inl (cI, 95, .inl m_row)), (a_m_seeps, .inl (cI, 18, .inl m_seeps))] H locs → lv_has ls 17 [(4, .int p4), (5, .long x18), (9, .long v23), (11, .long x25), (13, .long x26)] → W p l e rm_X9_storms s m args below meth c H locs 0 0 Q (F0 m 166 ls []) := by
                    intro n
                    induction n with
                    | zero => intro x25 x26 hF; exact (lp_no (hK027 x25 x26) hF).elim
                    | succ n ih27 =>
                      intro x25 x26 hF H locs ls hw hl
                      replace hF := hK27 n x25 x26 hF
                      refine lv_lload hx hb (dq dt_X9_storms 91 rfl) (lv_at hl 4 rfl) ?_
                      refine lv_lconst (v := (0 : Int64)) hx hb (dq dt_X9_storms 92 rfl) (by decide) ?_
                      refine W.lcmp hx hb (dq dt_X9_storms 93 rfl) ?_
                      refine lv_if_eq (tgt := 191) hx hb (dq dt_X9_storms 94 rfl) (by decide) (fun c28 => ?_) (fun c28 => ?_)
                      · replace hF := if_t c28 hF
                        refine lv_iload hx hb (dq dt_X9_storms 104 rfl) (lv_at hl 0 rfl) ?_
                        refine lv_if_ne (tgt := 204) hx hb (dq dt_X9_storms 105 rfl) (by decide) (fun c29 => ?_) (fun c29 => ?_)
                        · replace hF := if_f c29 hF
                          refine lv_lload hx hb (dq dt_X9_storms 110 rfl) (lv_at hl 2 rfl) ?_
                          refine lv_lload hx hb (dq dt_X9_storms 111 rfl) (lv_at hl 3 rfl) ?_
                          obtain ⟨hz30, hF⟩ := ckL_ hF
                          refine lv_ldiv hx hb (dq dt_X9_storms 112 rfl) hz30 ?_
                          cases hF
                          exact kRetL hQ C hw (dq dt_X9_storms 113 rfl)
                        · replace hF := if_t c29 hF
                          refine lv_lload hx hb (dq dt_X9_storms 106 rfl) (lv_at hl 1 rfl) ?_
                          refine lv_lload hx hb (dq dt_X9_storms 107 rfl) (lv_at hl 3 rfl) ?_
                          obtain ⟨hz31, hF⟩ := ckL_ hF
                          refine lv_ldiv hx hb (dq dt_X9_storms 108 rfl) hz31 ?_
                          refine lv_goto (tgt := 209) hx hb (dq dt_X9_storms 109 rfl) (by decide) ?_
                          cases hF
                          exact kRetL hQ C hw (dq dt_X9_storms 113 rfl)
                      · replace hF := if_f c28 hF
                        refine lv_lload hx hb (dq dt_X9_storms 95 rfl) (lv_at hl 3 rfl) ?_
                        refine lv_lload hx hb (dq dt_X9_storms 96 rfl) (lv_at hl 4 rfl) ?_
                        obtain ⟨hz32, hF⟩ := ckL_ hF
                        refine lv_lrem hx hb (dq dt_X9_storms 97 rfl) hz32 ?_
                        obtain ⟨v33, ev33, hF⟩ := bd_ hF
                        refine kNmL ev33 ?_
                        refine lv_lstore (lv' := [(15, .long v33), (4, .int p4), (5, .long x18), (9, .long v23), (11, .long x25), (13, .long x26)]) hx hb (dq dt_X9_storms 98 rfl) hl (by decide) rfl (fun ls hl => ?_)
                        refine lv_lload hx hb (dq dt_X9_storms 99 rfl) (lv_at hl 5 rfl) ?_
                        refine lv_lstore (lv' := [(11, .long x26), (15, .long v33), (4, .int p4), (5, .long x18), (9, .long v23), (13, .long x26)]) hx hb (dq dt_X9_storms 100 rfl) hl (by decide) rfl (fun ls hl => ?_)
                        refine lv_lload hx hb (dq dt_X9_storms 101 rfl) (lv_at hl 1 rfl) ?_
                        refine lv_lstore (lv' := [(13, .long v33), (11, .long x26), (15, .long v33), (4, .int p4), (5, .long x18), (9, .long v23)]) hx hb (dq dt_X9_storms 102 rfl) hl (by decide) rfl (fun ls hl => ?_)
                        refine lv_goto (tgt := 166) hx hb (dq dt_X9_storms 103 rfl) (by decide) ?_
                        exact ih27 x26 v33 hF _ _ _ hw (lv_sub hl [3, 4, 5, 1, 0] rfl)
                  exact L27 _ x18 v23 hF _ _ _ hw (lv_sub hl [7, 8, 2, 1, 0] rfl)
                · replace hF := if_f c22 hF
                  refine lv_lload hx hb (dq dt_X9_storms 44 rfl) (lv_at hl 5 rfl) ?_
                  refine lv_iload hx hb (dq dt_X9_storms 45 rfl) (lv_at hl 7 rfl) ?_
                  refine lv_aload_n hx hb (dq dt_X9_storms 46 rfl) rfl (lv_at hl 0 rfl) ?_
                  refine lv_iload_n hx hb (dq dt_X9_storms 47 rfl) rfl (lv_at hl 1 rfl) ?_
                  obtain ⟨v34, hr35, hF⟩ := zc1_ hF
                  refine kCallVR C hw (A_X9_growths l D cB cI cJ cZ ad a_m a_m_row a_m_isKept a_m_text a_m_read a_m_tides a_m_seeps a_m_kinds a_m_paces a_m_ears a_m_hearers a_m_chosen a_m_dues a_m_sights m_length m_readMany m_yards m_seepMany m_many m_at m_place m_end m_readYards m_readSeeps m_readChildren m_chosenMany m_seenMany m_row m_seeps p1 v34 hr35) (cwV 1 C.2.2.2.2.2.2.1 (w0_V0 q5_150 q5_147 q5_149 (ws0 47 rfl) q1_10) rfl rfl rfl kd_X9_growths ⟨Nat.le_of_ble_eq_true rfl, Nat.le_of_ble_eq_true rfl⟩) [0, 1, 2] rfl rfl 0 9 rfl rfl hl.1 rfl rfl rfl (Nat.le_of_ble_eq_true rfl) ⟨Nat.le_of_ble_eq_true rfl, Nat.le_of_ble_eq_true rfl⟩ (dq dt_X9_storms 48 rfl) (fun H locs hw => ?_)
                  obtain ⟨K37, hK37, hF⟩ := zj1_ hF
                  have J37 : ∀ (y36 : Int64), K37 y36 = some r → ∀ (H : Heap) (locs : List Loc) (ls : Array Slot), kW D A s.heap [(a_m, .inr (9, [.ref a_m_row, .ref a_m_isKept, .ref a_m_text, .int m_length, .ref a_m_read, .int m_readMany, .int m_yards, .ref a_m_tides, .ref a_m_seeps, .int m_seepMany, .ref a_m_kinds, .ref a_m_paces, .ref a_m_ears, .int m_many, .int m_at, .int m_place, .int m_end, .int m_readYards, .int m_readSeeps, .int m_readChildren, .ref a_m_hearers, .ref a_m_chosen, .int m_chosenMany, .ref a_m_dues, .ref a_m_sights, .int m_seenMany])), (a_m_row, .inl (cI, 95, .inl m_row)), (a_m_seeps, .inl (cI, 18, .inl m_seeps))] H locs → lv_has ls 17 [(0, .ref a_m), (1, .int p1), (2, .int p2), (3, .int p3), (4, .int p4), (7, .long x19), (9, .int x20)] → W p l e rm_X9_storms s m args below meth c H locs 0 0 Q (F0 m 124 ls [.long y36, .long x18]) := by
                    intro y36 hF H locs ls hw hl
                    replace hF := hK37 y36 hF
                    refine lv_ladd hx hb (dq dt_X9_storms 67 rfl) ?_
                    obtain ⟨v38, ev38, hF⟩ := bd_ hF
                    refine kNmL ev38 ?_
                    refine lv_lstore (lv' := [(5, .long v38), (0, .ref a_m), (1, .int p1), (2, .int p2), (3, .int p3), (4, .int p4), (7, .long x19), (9, .int x20)]) hx hb (dq dt_X9_storms 68 rfl) hl (by decide) rfl (fun ls hl => ?_)
                    refine lv_lload hx hb (dq dt_X9_storms 69 rfl) (lv_at hl 6 rfl) ?_
                    refine lv_iload_n hx hb (dq dt_X9_storms 70 rfl) rfl (lv_at hl 3 rfl) ?_
                    refine lv_iload hx hb (dq dt_X9_storms 71 rfl) (lv_at hl 7 rfl) ?_
                    refine lv_isub hx hb (dq dt_X9_storms 72 rfl) ?_
                    refine lv_i2l (v := ((p2 - x20).toInt64)) hx hb (dq dt_X9_storms 73 rfl) rfl ?_
                    refine lv_lmul hx hb (dq dt_X9_storms 74 rfl) ?_
                    refine lv_iload hx hb (dq dt_X9_storms 75 rfl) (lv_at hl 7 rfl) ?_
                    refine lv_iconst (v := (1 : Int32)) hx hb (dq dt_X9_storms 76 rfl) (by decide) ?_
                    refine lv_iadd hx hb (dq dt_X9_storms 77 rfl) ?_
                    refine lv_i2l (v := ((x20 + (1 : Int32)).toInt64)) hx hb (dq dt_X9_storms 78 rfl) rfl ?_
                    obtain ⟨hz39, hF⟩ := ckL_ hF
                    refine lv_ldiv hx hb (dq dt_X9_storms 79 rfl) hz39 ?_
                    obtain ⟨v40, ev40, hF⟩ := bd_ hF
                    refine kNmL ev40 ?_
                    refine lv_lstore (lv' := [(7, .long v40), (5, .long v38), (0, .ref a_m), (1, .int p1), (2, .int p2), (3, .int p3), (4, .int p4), (9, .int x20)]) hx hb (dq dt_X9_storms 80 rfl) hl (by decide) rfl (fun ls hl => ?_)
                    obtain ⟨v41, ev41, hF⟩ := bd_ hF
                    refine lv_iinc (v := v41) (lv' := [(9, .int v41), (7, .long v40), (5, .long v38), (0, .ref a_m), (1, .int p1), (2, .int p2), (3, .int p3), (4, .int p4)]) hx hb (dq dt_X9_storms 81 rfl) hl (k := 7) rfl ev41.symm (by decide) rfl (fun ls hl => ?_)
                    refine lv_goto (tgt := 78) hx hb (dq dt_X9_storms 82 rfl) (by decide) ?_
                    exact ih21 v38 v40 v41 hF _ _ _ hw (lv_sub hl [3, 4, 5, 6, 7, 2, 1, 0] rfl)
                  refine lv_icmp_lt (tgt := 123) hx hb (dq dt_X9_storms 49 rfl) (by decide) (fun c42 => ?_) (fun c42 => ?_)
                  · replace hF := if_t c42 hF
                    refine lv_lconst (v := (0 : Int64)) hx hb (dq dt_X9_storms 66 rfl) (by decide) ?_
                    exact J37 (0 : Int64) hF _ _ _ hw (lv_sub hl [0, 1, 2, 3, 4, 6, 7] rfl)
                  · replace hF := if_f c42 hF
                    refine lv_lload hx hb (dq dt_X9_storms 50 rfl) (lv_at hl 6 rfl) ?_
                    refine lv_iload_n hx hb (dq dt_X9_storms 51 rfl) rfl (lv_at hl 3 rfl) ?_
                    refine lv_i2l (v := (p3.toInt64)) hx hb (dq dt_X9_storms 52 rfl) rfl ?_
                    refine lv_iload hx hb (dq dt_X9_storms 53 rfl) (lv_at hl 7 rfl) ?_
                    obtain ⟨v43, hr44, hF⟩ := zc1_ hF
                    refine kCallSP C hw (A_X9_power l D cB cI cJ cZ ad (p3.toInt64) x20 v43 hr44) (va_cwS 2 C.2.2.2.2.2.2.1 (w0_S0 q5_153 q5_151 q5_152 q1_10) rfl rfl rfl ke_X9_power ⟨Nat.le_of_ble_eq_true rfl, Nat.le_of_ble_eq_true rfl⟩) hl.1 rfl rfl rfl (Nat.le_of_ble_eq_true rfl) ⟨Nat.le_of_ble_eq_true rfl, Nat.le_of_ble_eq_true rfl⟩ (dq dt_X9_storms 54 rfl) (fun H locs hw => ?_)
                    refine lv_lmul hx hb (dq dt_X9_storms 55 rfl) ?_
                    refine lv_ldc2 (v := (10 : Int64)) hx hb C.2.2.2.2.2.1 (C.2.2.2.2.2.2.1 _ q5_144) (dq dt_X9_storms 56 rfl) ?_
                    refine lv_iload_n hx hb (dq dt_X9_storms 57 rfl) rfl (lv_at hl 3 rfl) ?_
                    refine lv_i2l (v := (p3.toInt64)) hx hb (dq dt_X9_storms 58 rfl) rfl ?_
                    refine lv_lsub hx hb (dq dt_X9_storms 59 rfl) ?_
                    refine lv_iload_n hx hb (dq dt_X9_storms 60 rfl) rfl (lv_at hl 2 rfl) ?_
                    refine lv_iload hx hb (dq dt_X9_storms 61 rfl) (lv_at hl 7 rfl) ?_
                    refine lv_isub hx hb (dq dt_X9_storms 62 rfl) ?_
                    obtain ⟨v45, ev45, hF⟩ := bd_ hF
                    refine kNmI ev45 ?_
                    obtain ⟨v46, hr47, hF⟩ := zc1_ hF
                    refine kCallSP C hw (A_X9_power l D cB cI cJ cZ ad ((10 : Int64) - (p3.toInt64)) v45 v46 hr47) (va_cwS 2 C.2.2.2.2.2.2.1 (w0_S0 q5_153 q5_151 q5_152 q1_10) rfl rfl rfl ke_X9_power ⟨Nat.le_of_ble_eq_true rfl, Nat.le_of_ble_eq_true rfl⟩) hl.1 rfl rfl rfl (Nat.le_of_ble_eq_true rfl) ⟨Nat.le_of_ble_eq_true rfl, Nat.le_of_ble_eq_true rfl⟩ (dq dt_X9_storms 63 rfl) (fun H locs hw => ?_)
                    refine lv_lmul hx hb (dq dt_X9_storms 64 rfl) ?_
                    refine lv_goto (tgt := 124) hx hb (dq dt_X9_storms 65 rfl) (by decide) ?_
                    exact J37 ((x19 * v43) * v46) hF _ _ _ hw (lv_sub hl [0, 1, 2, 3, 4, 6, 7] rfl)
            exact L21 _ (0 : Int64) (1 : Int64) (0 : Int32) hF _ _ _ hw (lv_sub hl [3, 4, 5, 6, 7, 2, 1, 0] rfl)
          · replace hF := if_f c17 hF
            refine lv_ldc2 (v := (-4 : Int64)) hx hb C.2.2.2.2.2.1 (C.2.2.2.2.2.2.1 _ q5_146) (dq dt_X9_storms 33 rfl) ?_
            cases hF
            exact kRetL hQ C hw (dq dt_X9_storms 34 rfl)
        · replace hF := if_t c12 hF
          refine lv_ldc2 (v := (-3 : Int64)) hx hb C.2.2.2.2.2.1 (C.2.2.2.2.2.2.1 _ q5_145) (dq dt_X9_storms 24 rfl) ?_
          cases hF
          exact kRetL hQ C hw (dq dt_X9_storms 25 rfl)
  · replace hF := if_t c3 hF
    refine lv_ldc2 (v := (-2 : Int64)) hx hb C.2.2.2.2.2.1 (C.2.2.2.2.2.2.1 _ q5_142) (dq dt_X9_storms 4 rfl) ?_
    cases hF
    exact kRetL hQ C hw (dq dt_X9_storms 5 rfl)
def F_X9_guard (m_yards : Int32) (m_seepMany : Int32) (m_row : Nat → Int32) (m_seeps : Nat → Int32) (p1 : Int32) (p2 : Int32) : Option (Int32) :=
  zc1 (F_X9_in (p1.toInt64) (0 : Int64) (9 : Int64)) (fun v1 => if v1 = 0 then (some (-3 : Int32)) else (zc1 (F_X9_in (p2.toInt64) (0 : Int64) (1 : Int64)) (fun v4 => if v4 = 0 then (some (-3 : Int32)) else (zl2 (fun x7 x8 ag9 => if m_yards ≤ x8 then (if p2 = 0 then (some x7) else (zc1 (F_X9_heardAt m_seepMany m_row m_seeps (0 : Int32) x7 p1) (fun v12 => some v12))) else (zc1 (F_X9_heardAt m_seepMany m_row m_seeps (0 : Int32) x8 p1) (fun v14 => zc1 (F_X9_bits v14) (fun v16 => zc1 (F_X9_heardAt m_seepMany m_row m_seeps (0 : Int32) x7 p1) (fun v18 => zc1 (F_X9_bits v18) (fun v20 => if v16 ≤ v20 then (bd (x8 + (1 : Int32)) (fun v23 => ag9 x7 v23)) else (bd (x8 + (1 : Int32)) (fun v24 => ag9 x8 v24)))))))) FU (0 : Int32) (1 : Int32)))))
abbrev rm_X9_guard : Room := { frames := 2, cells := 0, slots := 0, locals := 46 }
theorem kd_X9_guard : yX9_guard.cls = RX9 ∧ yX9_guard.cls ≠ "java/lang/invoke/MethodHandle" ∧ yX9_guard.cls ≠ "java/lang/invoke/VarHandle" ∧ (parseMethodDescriptor yX9_guard.desc).map (fun d => d.parameters.length) = some 2 := by decide +kernel
set_option maxRecDepth 100000 in
set_option maxHeartbeats 4000000 in
theorem A_X9_guard (l : Launch) (D : va_G) (cB cI cJ cZ : ClassId) (ad : (Nat → Nat) × (Nat → Nat)) (a_m a_m_row a_m_isKept a_m_text a_m_read a_m_tides a_m_seeps a_m_kinds a_m_paces a_m_ears a_m_hearers a_m_chosen a_m_dues a_m_sights : Nat) (m_length : Int32) (m_readMany : Int32) (m_yards : Int32) (m_seepMany : Int32) (m_many : Int32) (m_at : Int32) (m_place : Int32) (m_end : Int32) (m_readYards : Int32) (m_readSeeps : Int32) (m_readChildren : Int32) (m_chosenMany : Int32) (m_seenMany : Int32) (m_row : Nat → Int32) (m_seeps : Nat → Int32) (p1 : Int32) (p2 : Int32) (r : Int32) (hF : F_X9_guard m_yards m_seepMany m_row m_seeps p1 p2 = some r) : kM l yX9_guard (Cond.code yX9_guard cX9_guard 5 (some .int) :: W0) rm_X9_guard D (kT cB cI cJ cZ) ad [.ref a_m, .int p1, .int p2] [(a_m, .inr (9, [.ref a_m_row, .ref a_m_isKept, .ref a_m_text, .int m_length, .ref a_m_read, .int m_readMany, .int m_yards, .ref a_m_tides, .ref a_m_seeps, .int m_seepMany, .ref a_m_kinds, .ref a_m_paces, .ref a_m_ears, .int m_many, .int m_at, .int m_place, .int m_end, .int m_readYards, .int m_readSeeps, .int m_readChildren, .ref a_m_hearers, .ref a_m_chosen, .int m_chosenMany, .ref a_m_dues, .ref a_m_sights, .int m_seenMany])), (a_m_row, .inl (cI, 95, .inl m_row)), (a_m_seeps, .inl (cI, 18, .inl m_seeps))] (some (.int r)) [(a_m, .inr (9, [.ref a_m_row, .ref a_m_isKept, .ref a_m_text, .int m_length, .ref a_m_read, .int m_readMany, .int m_yards, .ref a_m_tides, .ref a_m_seeps, .int m_seepMany, .ref a_m_kinds, .ref a_m_paces, .ref a_m_ears, .int m_many, .int m_at, .int m_place, .int m_end, .int m_readYards, .int m_readSeeps, .int m_readChildren, .ref a_m_hearers, .ref a_m_chosen, .int m_chosenMany, .ref a_m_dues, .ref a_m_sights, .int m_seenMany])), (a_m_row, .inl (cI, 95, .inl m_row)), (a_m_seeps, .inl (cI, 18, .inl m_seeps))] := by
  unfold F_X9_guard at hF
  refine kStart (lv := [(0, .ref a_m), (1, .int p1), (2, .int p2)]) (own := "DikeWatchModel") (plainFor_of_name (by decide)) rfl (Nat.le_of_ble_eq_true rfl) rfl ?_
  intro p e s m args below meth c A Q ls hQ C hx hb hw hl
  refine lv_iload_n hx hb (dq dt_X9_guard 0 rfl) rfl (lv_at hl 1 rfl) ?_
  refine lv_i2l (v := (p1.toInt64)) hx hb (dq dt_X9_guard 1 rfl) rfl ?_
  refine lv_lconst (v := (0 : Int64)) hx hb (dq dt_X9_guard 2 rfl) (by decide) ?_
  refine lv_ldc2 (v := (9 : Int64)) hx hb C.2.2.2.2.2.1 (C.2.2.2.2.2.2.1 _ q5_158) (dq dt_X9_guard 3 rfl) ?_
  obtain ⟨v1, hr2, hF⟩ := zc1_ hF
  refine kCallSP C hw (A_X9_in l D cB cI cJ cZ ad (p1.toInt64) (0 : Int64) (9 : Int64) v1 hr2) (va_cwS 3 C.2.2.2.2.2.2.1 (w0_S0 q4_182 q4_180 q4_181 q1_10) rfl rfl rfl ke_X9_in ⟨Nat.le_of_ble_eq_true rfl, Nat.le_of_ble_eq_true rfl⟩) hl.1 rfl rfl rfl (Nat.le_of_ble_eq_true rfl) ⟨Nat.le_of_ble_eq_true rfl, Nat.le_of_ble_eq_true rfl⟩ (dq dt_X9_guard 4 rfl) (fun H locs hw => ?_)
  refine lv_if_eq (tgt := 22) hx hb (dq dt_X9_guard 5 rfl) (by decide) (fun c3 => ?_) (fun c3 => ?_)
  · replace hF := if_t c3 hF
    refine lv_bipush (v := (-3 : Int32)) hx hb (dq dt_X9_guard 12 rfl) (by decide) ?_
    cases hF
    exact kRetI hQ C hw (dq dt_X9_guard 13 rfl)
  · replace hF := if_f c3 hF
    refine lv_iload_n hx hb (dq dt_X9_guard 6 rfl) rfl (lv_at hl 2 rfl) ?_
    refine lv_i2l (v := (p2.toInt64)) hx hb (dq dt_X9_guard 7 rfl) rfl ?_
    refine lv_lconst (v := (0 : Int64)) hx hb (dq dt_X9_guard 8 rfl) (by decide) ?_
    refine lv_lconst (v := (1 : Int64)) hx hb (dq dt_X9_guard 9 rfl) (by decide) ?_
    obtain ⟨v4, hr5, hF⟩ := zc1_ hF
    refine kCallSP C hw (A_X9_in l D cB cI cJ cZ ad (p2.toInt64) (0 : Int64) (1 : Int64) v4 hr5) (va_cwS 3 C.2.2.2.2.2.2.1 (w0_S0 q4_182 q4_180 q4_181 q1_10) rfl rfl rfl ke_X9_in ⟨Nat.le_of_ble_eq_true rfl, Nat.le_of_ble_eq_true rfl⟩) hl.1 rfl rfl rfl (Nat.le_of_ble_eq_true rfl) ⟨Nat.le_of_ble_eq_true rfl, Nat.le_of_ble_eq_true rfl⟩ (dq dt_X9_guard 10 rfl) (fun H locs hw => ?_)
    refine lv_if_ne (tgt := 25) hx hb (dq dt_X9_guard 11 rfl) (by decide) (fun c6 => ?_) (fun c6 => ?_)
    · replace hF := if_f c6 hF
      refine lv_iconst (v := (0 : Int32)) hx hb (dq dt_X9_guard 14 rfl) (by decide) ?_
      refine lv_istore_n (lv' := [(3, .int (0 : Int32)), (0, .ref a_m), (1, .int p1), (2, .int p2)]) hx hb (dq dt_X9_guard 15 rfl) rfl hl (by decide) rfl (fun ls hl => ?_)
      refine lv_iconst (v := (1 : Int32)) hx hb (dq dt_X9_guard 16 rfl) (by decide) ?_
      refine lv_istore (lv' := [(4, .int (1 : Int32)), (3, .int (0 : Int32)), (0, .ref a_m), (1, .int p1), (2, .int p2)]) hx hb (dq dt_X9_guard 17 rfl) hl (by decide) rfl (fun ls hl => ?_)
      obtain ⟨K9, hK09, hK9, hF⟩ := zl2_ hF
      have L9 : ∀ (n : Nat) (x7 : Int32) (x8 : Int32), K9 n x7 x8 = some r → ∀ (H : Heap) (locs : List Loc) (ls : Array Slot), kW D A s.heap [(a_m, .inr (9, [.ref a_m_row, .ref a_m_isKept, .ref a_m_text, .int m_length, .ref a_m_read, .int m_readMany, .int m_yards, .ref a_m_tides, .ref a_m_seeps, .int m_seepMany, .ref a_m_kinds, .ref a_m_paces, .ref a_m_ears, .int m_many, .int m_at, .int m_place, .int m_end, .int m_readYards, .int m_readSeeps, .int m_readChildren, .ref a_m_hearers, .ref a_m_chosen, .int m_chosenMany, .ref a_m_dues, .ref a_m_sights, .int m_seenMany])), (a_m_row, .inl (cI, 95, .inl m_row)), (a_m_seeps, .inl (cI, 18, .inl m_seeps))] H locs → lv_has ls 5 [(0, .ref a_m), (1, .int p1), (2, .int p2), (3, .int x7), (4, .int x8)] → W p l e rm_X9_guard s m args below meth c H locs 0 0 Q (F0 m 30 ls []) := by
        intro n
        induction n with
        | zero => intro x7 x8 hF; exact (lp_no (hK09 x7 x8) hF).elim
        | succ n ih9 =>
          intro x7 x8 hF H locs ls hw hl
          replace hF := hK9 n x7 x8 hF
          refine lv_iload hx hb (dq dt_X9_guard 18 rfl) (lv_at hl 4 rfl) ?_
          refine lv_aload_n hx hb (dq dt_X9_guard 19 rfl) rfl (lv_at hl 0 rfl) ?_
          refine kGet (ci := 9) C in_X9 hw 0 rfl rfl 6 (by decide) (C.2.2.2.2.2.2.1 _ q4_101) rfl rfl (dq dt_X9_guard 20 rfl) ?_
          refine lv_icmp_ge (tgt := 76) hx hb (dq dt_X9_guard 21 rfl) (by decide) (fun c10 => ?_) (fun c10 => ?_)
          · replace hF := if_t c10 hF
            refine lv_iload_n hx hb (dq dt_X9_guard 41 rfl) rfl (lv_at hl 2 rfl) ?_
            refine lv_if_ne (tgt := 84) hx hb (dq dt_X9_guard 42 rfl) (by decide) (fun c11 => ?_) (fun c11 => ?_)
            · replace hF := if_f c11 hF
              refine lv_aload_n hx hb (dq dt_X9_guard 45 rfl) rfl (lv_at hl 0 rfl) ?_
              refine lv_iconst (v := (0 : Int32)) hx hb (dq dt_X9_guard 46 rfl) (by decide) ?_
              refine lv_iload_n hx hb (dq dt_X9_guard 47 rfl) rfl (lv_at hl 3 rfl) ?_
              refine lv_iload_n hx hb (dq dt_X9_guard 48 rfl) rfl (lv_at hl 1 rfl) ?_
              obtain ⟨v12, hr13, hF⟩ := zc1_ hF
              refine kCallVR C hw (A_X9_heardAt l D cB cI cJ cZ ad a_m a_m_row a_m_isKept a_m_text a_m_read a_m_tides a_m_seeps a_m_kinds a_m_paces a_m_ears a_m_hearers a_m_chosen a_m_dues a_m_sights m_length m_readMany m_yards m_seepMany m_many m_at m_place m_end m_readYards m_readSeeps m_readChildren m_chosenMany m_seenMany m_row m_seeps (0 : Int32) x7 p1 v12 hr13) (cwV 3 C.2.2.2.2.2.2.1 (w0_V0 q5_49 q5_46 q5_48 (ws0 37 rfl) q1_10) rfl rfl rfl kd_X9_heardAt ⟨Nat.le_of_ble_eq_true rfl, Nat.le_of_ble_eq_true rfl⟩) [0, 1, 2] rfl rfl 0 9 rfl rfl hl.1 rfl rfl rfl (Nat.le_of_ble_eq_true rfl) ⟨Nat.le_of_ble_eq_true rfl, Nat.le_of_ble_eq_true rfl⟩ (dq dt_X9_guard 49 rfl) (fun H locs hw => ?_)
              cases hF
              exact kRetI hQ C hw (dq dt_X9_guard 50 rfl)
            · replace hF := if_t c11 hF
              refine lv_iload_n hx hb (dq dt_X9_guard 43 rfl) rfl (lv_at hl 3 rfl) ?_
              refine lv_goto (tgt := 91) hx hb (dq dt_X9_guard 44 rfl) (by decide) ?_
              cases hF
              exact kRetI hQ C hw (dq dt_X9_guard 50 rfl)
          · replace hF := if_f c10 hF
            refine lv_aload_n hx hb (dq dt_X9_guard 22 rfl) rfl (lv_at hl 0 rfl) ?_
            refine lv_iconst (v := (0 : Int32)) hx hb (dq dt_X9_guard 23 rfl) (by decide) ?_
            refine lv_iload hx hb (dq dt_X9_guard 24 rfl) (lv_at hl 4 rfl) ?_
            refine lv_iload_n hx hb (dq dt_X9_guard 25 rfl) rfl (lv_at hl 1 rfl) ?_
            obtain ⟨v14, hr15, hF⟩ := zc1_ hF
            refine kCallVR C hw (A_X9_heardAt l D cB cI cJ cZ ad a_m a_m_row a_m_isKept a_m_text a_m_read a_m_tides a_m_seeps a_m_kinds a_m_paces a_m_ears a_m_hearers a_m_chosen a_m_dues a_m_sights m_length m_readMany m_yards m_seepMany m_many m_at m_place m_end m_readYards m_readSeeps m_readChildren m_chosenMany m_seenMany m_row m_seeps (0 : Int32) x8 p1 v14 hr15) (cwV 3 C.2.2.2.2.2.2.1 (w0_V0 q5_49 q5_46 q5_48 (ws0 37 rfl) q1_10) rfl rfl rfl kd_X9_heardAt ⟨Nat.le_of_ble_eq_true rfl, Nat.le_of_ble_eq_true rfl⟩) [0, 1, 2] rfl rfl 0 9 rfl rfl hl.1 rfl rfl rfl (Nat.le_of_ble_eq_true rfl) ⟨Nat.le_of_ble_eq_true rfl, Nat.le_of_ble_eq_true rfl⟩ (dq dt_X9_guard 26 rfl) (fun H locs hw => ?_)
            obtain ⟨v16, hr17, hF⟩ := zc1_ hF
            refine kCallSP C hw (A_X9_bits l D cB cI cJ cZ ad v14 v16 hr17) (va_cwS 1 C.2.2.2.2.2.2.1 (w0_S0 q5_125 q5_123 q5_124 q1_10) rfl rfl rfl ke_X9_bits ⟨Nat.le_of_ble_eq_true rfl, Nat.le_of_ble_eq_true rfl⟩) hl.1 rfl rfl rfl (Nat.le_of_ble_eq_true rfl) ⟨Nat.le_of_ble_eq_true rfl, Nat.le_of_ble_eq_true rfl⟩ (dq dt_X9_guard 27 rfl) (fun H locs hw => ?_)
            refine lv_aload_n hx hb (dq dt_X9_guard 28 rfl) rfl (lv_at hl 0 rfl) ?_
            refine lv_iconst (v := (0 : Int32)) hx hb (dq dt_X9_guard 29 rfl) (by decide) ?_
            refine lv_iload_n hx hb (dq dt_X9_guard 30 rfl) rfl (lv_at hl 3 rfl) ?_
            refine lv_iload_n hx hb (dq dt_X9_guard 31 rfl) rfl (lv_at hl 1 rfl) ?_
            obtain ⟨v18, hr19, hF⟩ := zc1_ hF
            refine kCallVR C hw (A_X9_heardAt l D cB cI cJ cZ ad a_m a_m_row a_m_isKept a_m_text a_m_read a_m_tides a_m_seeps a_m_kinds a_m_paces a_m_ears a_m_hearers a_m_chosen a_m_dues a_m_sights m_length m_readMany m_yards m_seepMany m_many m_at m_place m_end m_readYards m_readSeeps m_readChildren m_chosenMany m_seenMany m_row m_seeps (0 : Int32) x7 p1 v18 hr19) (cwV 3 C.2.2.2.2.2.2.1 (w0_V0 q5_49 q5_46 q5_48 (ws0 37 rfl) q1_10) rfl rfl rfl kd_X9_heardAt ⟨Nat.le_of_ble_eq_true rfl, Nat.le_of_ble_eq_true rfl⟩) [0, 1, 2] rfl rfl 0 9 rfl rfl hl.1 rfl rfl rfl (Nat.le_of_ble_eq_true rfl) ⟨Nat.le_of_ble_eq_true rfl, Nat.le_of_ble_eq_true rfl⟩ (dq dt_X9_guard 32 rfl) (fun H locs hw => ?_)
            obtain ⟨v20, hr21, hF⟩ := zc1_ hF
            refine kCallSP C hw (A_X9_bits l D cB cI cJ cZ ad v18 v20 hr21) (va_cwS 1 C.2.2.2.2.2.2.1 (w0_S0 q5_125 q5_123 q5_124 q1_10) rfl rfl rfl ke_X9_bits ⟨Nat.le_of_ble_eq_true rfl, Nat.le_of_ble_eq_true rfl⟩) hl.1 rfl rfl rfl (Nat.le_of_ble_eq_true rfl) ⟨Nat.le_of_ble_eq_true rfl, Nat.le_of_ble_eq_true rfl⟩ (dq dt_X9_guard 33 rfl) (fun H locs hw => ?_)
            refine lv_icmp_le (tgt := 68) hx hb (dq dt_X9_guard 34 rfl) (by decide) (fun c22 => ?_) (fun c22 => ?_)
            · replace hF := if_t c22 hF
              refine lv_iload_n hx hb (dq dt_X9_guard 37 rfl) rfl (lv_at hl 3 rfl) ?_
              refine lv_istore_n (lv' := [(3, .int x7), (0, .ref a_m), (1, .int p1), (2, .int p2), (4, .int x8)]) hx hb (dq dt_X9_guard 38 rfl) rfl hl (by decide) rfl (fun ls hl => ?_)
              obtain ⟨v23, ev23, hF⟩ := bd_ hF
              refine lv_iinc (v := v23) (lv' := [(4, .int v23), (3, .int x7), (0, .ref a_m), (1, .int p1), (2, .int p2)]) hx hb (dq dt_X9_guard 39 rfl) hl (k := 4) rfl ev23.symm (by decide) rfl (fun ls hl => ?_)
              refine lv_goto (tgt := 30) hx hb (dq dt_X9_guard 40 rfl) (by decide) ?_
              exact ih9 x7 v23 hF _ _ _ hw (lv_sub hl [2, 3, 4, 1, 0] rfl)
            · replace hF := if_f c22 hF
              refine lv_iload hx hb (dq dt_X9_guard 35 rfl) (lv_at hl 4 rfl) ?_
              refine lv_goto (tgt := 69) hx hb (dq dt_X9_guard 36 rfl) (by decide) ?_
              refine lv_istore_n (lv' := [(3, .int x8), (0, .ref a_m), (1, .int p1), (2, .int p2), (4, .int x8)]) hx hb (dq dt_X9_guard 38 rfl) rfl hl (by decide) rfl (fun ls hl => ?_)
              obtain ⟨v24, ev24, hF⟩ := bd_ hF
              refine lv_iinc (v := v24) (lv' := [(4, .int v24), (3, .int x8), (0, .ref a_m), (1, .int p1), (2, .int p2)]) hx hb (dq dt_X9_guard 39 rfl) hl (k := 4) rfl ev24.symm (by decide) rfl (fun ls hl => ?_)
              refine lv_goto (tgt := 30) hx hb (dq dt_X9_guard 40 rfl) (by decide) ?_
              exact ih9 x8 v24 hF _ _ _ hw (lv_sub hl [2, 3, 4, 1, 0] rfl)
      exact L9 _ (0 : Int32) (1 : Int32) hF _ _ _ hw (lv_sub hl [2, 3, 4, 1, 0] rfl)
    · replace hF := if_t c6 hF
      refine lv_bipush (v := (-3 : Int32)) hx hb (dq dt_X9_guard 12 rfl) (by decide) ?_
      cases hF
      exact kRetI hQ C hw (dq dt_X9_guard 13 rfl)
def F_X9_see (m_seenMany : Int32) (m_sights : Nat → Int32) (p1 : Int32) (p2 : Int32) (p3 : Int32) : Option (Int32 × Int32 × (Nat → Int32)) :=
  if m_seenMany = (9 : Int32) then (some ((-5 : Int32), m_seenMany, m_sights)) else (wr 27 ((3 : Int32) * m_seenMany) (upd m_sights (((3 : Int32) * m_seenMany)).toNatClampNeg p1) (fun g2 => wr 27 (((3 : Int32) * m_seenMany) + (1 : Int32)) (upd g2 ((((3 : Int32) * m_seenMany) + (1 : Int32))).toNatClampNeg p2) (fun g4 => wr 27 (((3 : Int32) * m_seenMany) + (2 : Int32)) (upd g4 ((((3 : Int32) * m_seenMany) + (2 : Int32))).toNatClampNeg p3) (fun g6 => bd (m_seenMany + (1 : Int32)) (fun v8 => some (v8, v8, g6))))))
abbrev rm_X9_see : Room := { frames := 0, cells := 0, slots := 0, locals := 0 }
theorem kd_X9_see : yX9_see.cls = RX9 ∧ yX9_see.cls ≠ "java/lang/invoke/MethodHandle" ∧ yX9_see.cls ≠ "java/lang/invoke/VarHandle" ∧ (parseMethodDescriptor yX9_see.desc).map (fun d => d.parameters.length) = some 3 := by decide +kernel
set_option maxRecDepth 100000 in
set_option maxHeartbeats 4000000 in
theorem A_X9_see (l : Launch) (D : va_G) (cB cI cJ cZ : ClassId) (ad : (Nat → Nat) × (Nat → Nat)) (a_m a_m_row a_m_isKept a_m_text a_m_read a_m_tides a_m_seeps a_m_kinds a_m_paces a_m_ears a_m_hearers a_m_chosen a_m_dues a_m_sights : Nat) (m_length : Int32) (m_readMany : Int32) (m_yards : Int32) (m_seepMany : Int32) (m_many : Int32) (m_at : Int32) (m_place : Int32) (m_end : Int32) (m_readYards : Int32) (m_readSeeps : Int32) (m_readChildren : Int32) (m_chosenMany : Int32) (m_seenMany : Int32) (m_sights : Nat → Int32) (p1 : Int32) (p2 : Int32) (p3 : Int32) (r : Int32) (m_seenMany' : Int32) (m_sights' : Nat → Int32) (hF : F_X9_see m_seenMany m_sights p1 p2 p3 = some (r, m_seenMany', m_sights')) : kM l yX9_see (Cond.code yX9_see cX9_see 4 (some .int) :: W0) rm_X9_see D (kT cB cI cJ cZ) ad [.ref a_m, .int p1, .int p2, .int p3] [(a_m, .inr (9, [.ref a_m_row, .ref a_m_isKept, .ref a_m_text, .int m_length, .ref a_m_read, .int m_readMany, .int m_yards, .ref a_m_tides, .ref a_m_seeps, .int m_seepMany, .ref a_m_kinds, .ref a_m_paces, .ref a_m_ears, .int m_many, .int m_at, .int m_place, .int m_end, .int m_readYards, .int m_readSeeps, .int m_readChildren, .ref a_m_hearers, .ref a_m_chosen, .int m_chosenMany, .ref a_m_dues, .ref a_m_sights, .int m_seenMany])), (a_m_sights, .inl (cI, 27, .inl m_sights))] (some (.int r)) [(a_m, .inr (9, [.ref a_m_row, .ref a_m_isKept, .ref a_m_text, .int m_length, .ref a_m_read, .int m_readMany, .int m_yards, .ref a_m_tides, .ref a_m_seeps, .int m_seepMany, .ref a_m_kinds, .ref a_m_paces, .ref a_m_ears, .int m_many, .int m_at, .int m_place, .int m_end, .int m_readYards, .int m_readSeeps, .int m_readChildren, .ref a_m_hearers, .ref a_m_chosen, .int m_chosenMany, .ref a_m_dues, .ref a_m_sights, .int (m_seenMany')])), (a_m_sights, .inl (cI, 27, .inl (m_sights')))] := by
  unfold F_X9_see at hF
  refine kStart (lv := [(0, .ref a_m), (1, .int p1), (2, .int p2), (3, .int p3)]) (own := "DikeWatchModel") (plainFor_of_name (by decide)) rfl (Nat.le_of_ble_eq_true rfl) rfl ?_
  intro p e s m args below meth c A Q ls hQ C hx hb hw hl
  refine lv_aload_n hx hb (dq dt_X9_see 0 rfl) rfl (lv_at hl 0 rfl) ?_
  refine kGet (ci := 9) C in_X9 hw 0 rfl rfl 25 (by decide) (C.2.2.2.2.2.2.1 _ q4_120) rfl rfl (dq dt_X9_see 1 rfl) ?_
  refine lv_bipush (v := (9 : Int32)) hx hb (dq dt_X9_see 2 rfl) (by decide) ?_
  refine lv_icmp_ne (tgt := 12) hx hb (dq dt_X9_see 3 rfl) (by decide) (fun c1 => ?_) (fun c1 => ?_)
  · replace hF := if_f c1 hF
    refine lv_aload_n hx hb (dq dt_X9_see 6 rfl) rfl (lv_at hl 0 rfl) ?_
    refine kGet (ci := 9) C in_X9 hw 0 rfl rfl 24 (by decide) (C.2.2.2.2.2.2.1 _ q4_119) rfl rfl (dq dt_X9_see 7 rfl) ?_
    refine lv_iconst (v := (3 : Int32)) hx hb (dq dt_X9_see 8 rfl) (by decide) ?_
    refine lv_aload_n hx hb (dq dt_X9_see 9 rfl) rfl (lv_at hl 0 rfl) ?_
    refine kGet (ci := 9) C in_X9 hw 0 rfl rfl 25 (by decide) (C.2.2.2.2.2.2.1 _ q4_120) rfl rfl (dq dt_X9_see 10 rfl) ?_
    refine lv_imul hx hb (dq dt_X9_see 11 rfl) ?_
    refine lv_iload_n hx hb (dq dt_X9_see 12 rfl) rfl (lv_at hl 1 rfl) ?_
    obtain ⟨g2, eg2, hi3, hF⟩ := wr_ hF
    refine kIast (ws' := [(a_m, .inr (9, [.ref a_m_row, .ref a_m_isKept, .ref a_m_text, .int m_length, .ref a_m_read, .int m_readMany, .int m_yards, .ref a_m_tides, .ref a_m_seeps, .int m_seepMany, .ref a_m_kinds, .ref a_m_paces, .ref a_m_ears, .int m_many, .int m_at, .int m_place, .int m_end, .int m_readYards, .int m_readSeeps, .int m_readChildren, .ref a_m_hearers, .ref a_m_chosen, .int m_chosenMany, .ref a_m_dues, .ref a_m_sights, .int m_seenMany])), (a_m_sights, .inl (cI, 27, .inl g2))]) C hw 1 1 rfl rfl hi3 eg2 rfl (dq dt_X9_see 13 rfl) (fun H locs hw => ?_)
    refine lv_aload_n hx hb (dq dt_X9_see 14 rfl) rfl (lv_at hl 0 rfl) ?_
    refine kGet (ci := 9) C in_X9 hw 0 rfl rfl 24 (by decide) (C.2.2.2.2.2.2.1 _ q4_119) rfl rfl (dq dt_X9_see 15 rfl) ?_
    refine lv_iconst (v := (3 : Int32)) hx hb (dq dt_X9_see 16 rfl) (by decide) ?_
    refine lv_aload_n hx hb (dq dt_X9_see 17 rfl) rfl (lv_at hl 0 rfl) ?_
    refine kGet (ci := 9) C in_X9 hw 0 rfl rfl 25 (by decide) (C.2.2.2.2.2.2.1 _ q4_120) rfl rfl (dq dt_X9_see 18 rfl) ?_
    refine lv_imul hx hb (dq dt_X9_see 19 rfl) ?_
    refine lv_iconst (v := (1 : Int32)) hx hb (dq dt_X9_see 20 rfl) (by decide) ?_
    refine lv_iadd hx hb (dq dt_X9_see 21 rfl) ?_
    refine lv_iload_n hx hb (dq dt_X9_see 22 rfl) rfl (lv_at hl 2 rfl) ?_
    obtain ⟨g4, eg4, hi5, hF⟩ := wr_ hF
    refine kIast (ws' := [(a_m, .inr (9, [.ref a_m_row, .ref a_m_isKept, .ref a_m_text, .int m_length, .ref a_m_read, .int m_readMany, .int m_yards, .ref a_m_tides, .ref a_m_seeps, .int m_seepMany, .ref a_m_kinds, .ref a_m_paces, .ref a_m_ears, .int m_many, .int m_at, .int m_place, .int m_end, .int m_readYards, .int m_readSeeps, .int m_readChildren, .ref a_m_hearers, .ref a_m_chosen, .int m_chosenMany, .ref a_m_dues, .ref a_m_sights, .int m_seenMany])), (a_m_sights, .inl (cI, 27, .inl g4))]) C hw 1 1 rfl rfl hi5 eg4 rfl (dq dt_X9_see 23 rfl) (fun H locs hw => ?_)
    refine lv_aload_n hx hb (dq dt_X9_see 24 rfl) rfl (lv_at hl 0 rfl) ?_
    refine kGet (ci := 9) C in_X9 hw 0 rfl rfl 24 (by decide) (C.2.2.2.2.2.2.1 _ q4_119) rfl rfl (dq dt_X9_see 25 rfl) ?_
    refine lv_iconst (v := (3 : Int32)) hx hb (dq dt_X9_see 26 rfl) (by decide) ?_
    refine lv_aload_n hx hb (dq dt_X9_see 27 rfl) rfl (lv_at hl 0 rfl) ?_
    refine kGet (ci := 9) C in_X9 hw 0 rfl rfl 25 (by decide) (C.2.2.2.2.2.2.1 _ q4_120) rfl rfl (dq dt_X9_see 28 rfl) ?_
    refine lv_imul hx hb (dq dt_X9_see 29 rfl) ?_
    refine lv_iconst (v := (2 : Int32)) hx hb (dq dt_X9_see 30 rfl) (by decide) ?_
    refine lv_iadd hx hb (dq dt_X9_see 31 rfl) ?_
    refine lv_iload_n hx hb (dq dt_X9_see 32 rfl) rfl (lv_at hl 3 rfl) ?_
    obtain ⟨g6, eg6, hi7, hF⟩ := wr_ hF
    refine kIast (ws' := [(a_m, .inr (9, [.ref a_m_row, .ref a_m_isKept, .ref a_m_text, .int m_length, .ref a_m_read, .int m_readMany, .int m_yards, .ref a_m_tides, .ref a_m_seeps, .int m_seepMany, .ref a_m_kinds, .ref a_m_paces, .ref a_m_ears, .int m_many, .int m_at, .int m_place, .int m_end, .int m_readYards, .int m_readSeeps, .int m_readChildren, .ref a_m_hearers, .ref a_m_chosen, .int m_chosenMany, .ref a_m_dues, .ref a_m_sights, .int m_seenMany])), (a_m_sights, .inl (cI, 27, .inl g6))]) C hw 1 1 rfl rfl hi7 eg6 rfl (dq dt_X9_see 33 rfl) (fun H locs hw => ?_)
    refine lv_aload_n hx hb (dq dt_X9_see 34 rfl) rfl (lv_at hl 0 rfl) ?_
    refine lv_dup hx hb (dq dt_X9_see 35 rfl) rfl ?_
    refine kGet (ci := 9) C in_X9 hw 0 rfl rfl 25 (by decide) (C.2.2.2.2.2.2.1 _ q4_120) rfl rfl (dq dt_X9_see 36 rfl) ?_
    refine lv_iconst (v := (1 : Int32)) hx hb (dq dt_X9_see 37 rfl) (by decide) ?_
    refine lv_iadd hx hb (dq dt_X9_see 38 rfl) ?_
    obtain ⟨v8, ev8, hF⟩ := bd_ hF
    refine kNmI ev8 ?_
    refine kPut (ci := 9) (ws' := [(a_m, .inr (9, [.ref a_m_row, .ref a_m_isKept, .ref a_m_text, .int m_length, .ref a_m_read, .int m_readMany, .int m_yards, .ref a_m_tides, .ref a_m_seeps, .int m_seepMany, .ref a_m_kinds, .ref a_m_paces, .ref a_m_ears, .int m_many, .int m_at, .int m_place, .int m_end, .int m_readYards, .int m_readSeeps, .int m_readChildren, .ref a_m_hearers, .ref a_m_chosen, .int m_chosenMany, .ref a_m_dues, .ref a_m_sights, .int v8])), (a_m_sights, .inl (cI, 27, .inl g6))]) C in_X9 tyX9 tyX9_ok nmX9 hw 0 rfl rfl 25 (by decide) (C.2.2.2.2.2.2.1 _ q4_120) rfl rfl rfl rfl (Nat.le_of_ble_eq_true rfl) rfl (dq dt_X9_see 39 rfl) (fun H locs hw => ?_)
    refine lv_aload_n hx hb (dq dt_X9_see 40 rfl) rfl (lv_at hl 0 rfl) ?_
    refine kGet (ci := 9) C in_X9 hw 0 rfl rfl 25 (by decide) (C.2.2.2.2.2.2.1 _ q4_120) rfl rfl (dq dt_X9_see 41 rfl) ?_
    cases hF
    exact kRetI hQ C hw (dq dt_X9_see 42 rfl)
  · replace hF := if_t c1 hF
    refine lv_bipush (v := (-5 : Int32)) hx hb (dq dt_X9_see 4 rfl) (by decide) ?_
    cases hF
    exact kRetI hQ C hw (dq dt_X9_see 5 rfl)
def F_X9_seen (m_yards : Int32) (m_seenMany : Int32) (m_sights : Nat → Int32) (p1 : Int32) (p2 : Int32) (p3 : Int32) : Option (Int32 × Int32 × (Nat → Int32)) :=
  zc1 (F_X9_isYard m_yards p1) (fun v1 => if v1 = 0 then (some ((-2 : Int32), m_seenMany, m_sights)) else (zc1 (F_X9_in (p2.toInt64) (0 : Int64) (9 : Int64)) (fun v4 => if v4 = 0 then (some ((-3 : Int32), m_seenMany, m_sights)) else (zc1 (F_X9_in (p3.toInt64) (0 : Int64) (1 : Int64)) (fun v7 => if v7 = 0 then (some ((-3 : Int32), m_seenMany, m_sights)) else (zc3 (F_X9_see m_seenMany m_sights p1 p2 p3) (fun v10 g11 g12 => some (v10, g11, g12))))))))
abbrev rm_X9_seen : Room := { frames := 2, cells := 0, slots := 0, locals := 46 }
theorem kd_X9_seen : yX9_seen.cls = RX9 ∧ yX9_seen.cls ≠ "java/lang/invoke/MethodHandle" ∧ yX9_seen.cls ≠ "java/lang/invoke/VarHandle" ∧ (parseMethodDescriptor yX9_seen.desc).map (fun d => d.parameters.length) = some 3 := by decide +kernel
set_option maxRecDepth 100000 in
set_option maxHeartbeats 4000000 in
theorem A_X9_seen (l : Launch) (D : va_G) (cB cI cJ cZ : ClassId) (ad : (Nat → Nat) × (Nat → Nat)) (a_m a_m_row a_m_isKept a_m_text a_m_read a_m_tides a_m_seeps a_m_kinds a_m_paces a_m_ears a_m_hearers a_m_chosen a_m_dues a_m_sights : Nat) (m_length : Int32) (m_readMany : Int32) (m_yards : Int32) (m_seepMany : Int32) (m_many : Int32) (m_at : Int32) (m_place : Int32) (m_end : Int32) (m_readYards : Int32) (m_readSeeps : Int32) (m_readChildren : Int32) (m_chosenMany : Int32) (m_seenMany : Int32) (m_sights : Nat → Int32) (p1 : Int32) (p2 : Int32) (p3 : Int32) (r : Int32) (m_seenMany' : Int32) (m_sights' : Nat → Int32) (hF : F_X9_seen m_yards m_seenMany m_sights p1 p2 p3 = some (r, m_seenMany', m_sights')) : kM l yX9_seen (Cond.code yX9_seen cX9_seen 4 (some .int) :: W0) rm_X9_seen D (kT cB cI cJ cZ) ad [.ref a_m, .int p1, .int p2, .int p3] [(a_m, .inr (9, [.ref a_m_row, .ref a_m_isKept, .ref a_m_text, .int m_length, .ref a_m_read, .int m_readMany, .int m_yards, .ref a_m_tides, .ref a_m_seeps, .int m_seepMany, .ref a_m_kinds, .ref a_m_paces, .ref a_m_ears, .int m_many, .int m_at, .int m_place, .int m_end, .int m_readYards, .int m_readSeeps, .int m_readChildren, .ref a_m_hearers, .ref a_m_chosen, .int m_chosenMany, .ref a_m_dues, .ref a_m_sights, .int m_seenMany])), (a_m_sights, .inl (cI, 27, .inl m_sights))] (some (.int r)) [(a_m, .inr (9, [.ref a_m_row, .ref a_m_isKept, .ref a_m_text, .int m_length, .ref a_m_read, .int m_readMany, .int m_yards, .ref a_m_tides, .ref a_m_seeps, .int m_seepMany, .ref a_m_kinds, .ref a_m_paces, .ref a_m_ears, .int m_many, .int m_at, .int m_place, .int m_end, .int m_readYards, .int m_readSeeps, .int m_readChildren, .ref a_m_hearers, .ref a_m_chosen, .int m_chosenMany, .ref a_m_dues, .ref a_m_sights, .int (m_seenMany')])), (a_m_sights, .inl (cI, 27, .inl (m_sights')))] := by
  unfold F_X9_seen at hF
  refine kStart (lv := [(0, .ref a_m), (1, .int p1), (2, .int p2), (3, .int p3)]) (own := "DikeWatchModel") (plainFor_of_name (by decide)) rfl (Nat.le_of_ble_eq_true rfl) rfl ?_
  intro p e s m args below meth c A Q ls hQ C hx hb hw hl
  refine lv_aload_n hx hb (dq dt_X9_seen 0 rfl) rfl (lv_at hl 0 rfl) ?_
  refine lv_iload_n hx hb (dq dt_X9_seen 1 rfl) rfl (lv_at hl 1 rfl) ?_
  obtain ⟨v1, hr2, hF⟩ := zc1_ hF
  refine kCallVR C hw (A_X9_isYard l D cB cI cJ cZ ad a_m a_m_row a_m_isKept a_m_text a_m_read a_m_tides a_m_seeps a_m_kinds a_m_paces a_m_ears a_m_hearers a_m_chosen a_m_dues a_m_sights m_length m_readMany m_yards m_seepMany m_many m_at m_place m_end m_readYards m_readSeeps m_readChildren m_chosenMany m_seenMany p1 v1 hr2) (cwV 1 C.2.2.2.2.2.2.1 (w0_V0 q5_81 q5_78 q5_80 (ws0 40 rfl) q1_10) rfl rfl rfl kd_X9_isYard ⟨Nat.le_of_ble_eq_true rfl, Nat.le_of_ble_eq_true rfl⟩) [0] rfl rfl 0 9 rfl rfl hl.1 rfl rfl rfl (Nat.le_of_ble_eq_true rfl) ⟨Nat.le_of_ble_eq_true rfl, Nat.le_of_ble_eq_true rfl⟩ (dq dt_X9_seen 2 rfl) (fun H locs hw => ?_)
  refine lv_if_ne (tgt := 11) hx hb (dq dt_X9_seen 3 rfl) (by decide) (fun c3 => ?_) (fun c3 => ?_)
  · replace hF := if_f c3 hF
    refine lv_iload_n hx hb (dq dt_X9_seen 6 rfl) rfl (lv_at hl 2 rfl) ?_
    refine lv_i2l (v := (p2.toInt64)) hx hb (dq dt_X9_seen 7 rfl) rfl ?_
    refine lv_lconst (v := (0 : Int64)) hx hb (dq dt_X9_seen 8 rfl) (by decide) ?_
    refine lv_ldc2 (v := (9 : Int64)) hx hb C.2.2.2.2.2.1 (C.2.2.2.2.2.2.1 _ q5_158) (dq dt_X9_seen 9 rfl) ?_
    obtain ⟨v4, hr5, hF⟩ := zc1_ hF
    refine kCallSP C hw (A_X9_in l D cB cI cJ cZ ad (p2.toInt64) (0 : Int64) (9 : Int64) v4 hr5) (va_cwS 3 C.2.2.2.2.2.2.1 (w0_S0 q4_182 q4_180 q4_181 q1_10) rfl rfl rfl ke_X9_in ⟨Nat.le_of_ble_eq_true rfl, Nat.le_of_ble_eq_true rfl⟩) hl.1 rfl rfl rfl (Nat.le_of_ble_eq_true rfl) ⟨Nat.le_of_ble_eq_true rfl, Nat.le_of_ble_eq_true rfl⟩ (dq dt_X9_seen 10 rfl) (fun H locs hw => ?_)
    refine lv_if_eq (tgt := 43) hx hb (dq dt_X9_seen 11 rfl) (by decide) (fun c6 => ?_) (fun c6 => ?_)
    · replace hF := if_t c6 hF
      refine lv_bipush (v := (-3 : Int32)) hx hb (dq dt_X9_seen 24 rfl) (by decide) ?_
      cases hF
      exact kRetI hQ C hw (dq dt_X9_seen 25 rfl)
    · replace hF := if_f c6 hF
      refine lv_iload_n hx hb (dq dt_X9_seen 12 rfl) rfl (lv_at hl 3 rfl) ?_
      refine lv_i2l (v := (p3.toInt64)) hx hb (dq dt_X9_seen 13 rfl) rfl ?_
      refine lv_lconst (v := (0 : Int64)) hx hb (dq dt_X9_seen 14 rfl) (by decide) ?_
      refine lv_lconst (v := (1 : Int64)) hx hb (dq dt_X9_seen 15 rfl) (by decide) ?_
      obtain ⟨v7, hr8, hF⟩ := zc1_ hF
      refine kCallSP C hw (A_X9_in l D cB cI cJ cZ ad (p3.toInt64) (0 : Int64) (1 : Int64) v7 hr8) (va_cwS 3 C.2.2.2.2.2.2.1 (w0_S0 q4_182 q4_180 q4_181 q1_10) rfl rfl rfl ke_X9_in ⟨Nat.le_of_ble_eq_true rfl, Nat.le_of_ble_eq_true rfl⟩) hl.1 rfl rfl rfl (Nat.le_of_ble_eq_true rfl) ⟨Nat.le_of_ble_eq_true rfl, Nat.le_of_ble_eq_true rfl⟩ (dq dt_X9_seen 16 rfl) (fun H locs hw => ?_)
      refine lv_if_eq (tgt := 43) hx hb (dq dt_X9_seen 17 rfl) (by decide) (fun c9 => ?_) (fun c9 => ?_)
      · replace hF := if_t c9 hF
        refine lv_bipush (v := (-3 : Int32)) hx hb (dq dt_X9_seen 24 rfl) (by decide) ?_
        cases hF
        exact kRetI hQ C hw (dq dt_X9_seen 25 rfl)
      · replace hF := if_f c9 hF
        refine lv_aload_n hx hb (dq dt_X9_seen 18 rfl) rfl (lv_at hl 0 rfl) ?_
        refine lv_iload_n hx hb (dq dt_X9_seen 19 rfl) rfl (lv_at hl 1 rfl) ?_
        refine lv_iload_n hx hb (dq dt_X9_seen 20 rfl) rfl (lv_at hl 2 rfl) ?_
        refine lv_iload_n hx hb (dq dt_X9_seen 21 rfl) rfl (lv_at hl 3 rfl) ?_
        obtain ⟨v10, g11, g12, hr13, hF⟩ := zc3_ hF
        refine kCallV (ws2 := [(a_m, .inr (9, [.ref a_m_row, .ref a_m_isKept, .ref a_m_text, .int m_length, .ref a_m_read, .int m_readMany, .int m_yards, .ref a_m_tides, .ref a_m_seeps, .int m_seepMany, .ref a_m_kinds, .ref a_m_paces, .ref a_m_ears, .int m_many, .int m_at, .int m_place, .int m_end, .int m_readYards, .int m_readSeeps, .int m_readChildren, .ref a_m_hearers, .ref a_m_chosen, .int m_chosenMany, .ref a_m_dues, .ref a_m_sights, .int g11])), (a_m_sights, .inl (cI, 27, .inl g12))]) C hw (A_X9_see l D cB cI cJ cZ ad a_m a_m_row a_m_isKept a_m_text a_m_read a_m_tides a_m_seeps a_m_kinds a_m_paces a_m_ears a_m_hearers a_m_chosen a_m_dues a_m_sights m_length m_readMany m_yards m_seepMany m_many m_at m_place m_end m_readYards m_readSeeps m_readChildren m_chosenMany m_seenMany m_sights p1 p2 p3 v10 g11 g12 hr13) (cwV 3 C.2.2.2.2.2.2.1 (w0_V0 q5_166 q5_163 q5_165 (ws0 48 rfl) q1_10) rfl rfl rfl kd_X9_see ⟨Nat.le_of_ble_eq_true rfl, Nat.le_of_ble_eq_true rfl⟩) [0, 1] rfl rfl rfl rfl 0 9 rfl rfl hl.1 rfl rfl rfl (Nat.le_of_ble_eq_true rfl) ⟨Nat.le_of_ble_eq_true rfl, Nat.le_of_ble_eq_true rfl⟩ (dq dt_X9_seen 22 rfl) (fun H locs hw => ?_)
        refine lv_goto (tgt := 45) hx hb (dq dt_X9_seen 23 rfl) (by decide) ?_
        cases hF
        exact kRetI hQ C hw (dq dt_X9_seen 25 rfl)
  · replace hF := if_t c3 hF
    refine lv_bipush (v := (-2 : Int32)) hx hb (dq dt_X9_seen 4 rfl) (by decide) ?_
    cases hF
    exact kRetI hQ C hw (dq dt_X9_seen 5 rfl)
