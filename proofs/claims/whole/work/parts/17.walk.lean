def F_X9_far (p1 : Int32) (p2 : Int32) : Option (Int32) :=
  if p2 ≤ p1 then (some (p1 - p2)) else (some (p2 - p1))
abbrev rm_X9_far : Room := { frames := 0, cells := 0, slots := 0, locals := 0 }
theorem ke_X9_far : yX9_far.cls ≠ "java/lang/invoke/MethodHandle" ∧ yX9_far.cls ≠ "java/lang/invoke/VarHandle" ∧ (parseMethodDescriptor yX9_far.desc).map (fun d => d.parameters.length) = some 2 := by decide +kernel
set_option maxRecDepth 100000 in
set_option maxHeartbeats 4000000 in
theorem A_X9_far (l : Launch) (D : va_G) (cB cI cJ cZ : ClassId) (ad : (Nat → Nat) × (Nat → Nat)) (p1 : Int32) (p2 : Int32) (r : Int32) (hF : F_X9_far p1 p2 = some r) : kM l yX9_far (Cond.code yX9_far cX9_far 2 (some .int) :: W0) rm_X9_far D (kT cB cI cJ cZ) ad [.int p1, .int p2] [] (some (.int r)) [] := by
  unfold F_X9_far at hF
  refine kStart (lv := [(0, .int p1), (1, .int p2)]) (own := "DikeWatchModel") (plainFor_of_name (by decide)) rfl (Nat.le_of_ble_eq_true rfl) rfl ?_
  intro p e s m args below meth c A Q ls hQ C hx hb hw hl
  refine lv_iload_n hx hb (dq dt_X9_far 0 rfl) rfl (lv_at hl 0 rfl) ?_
  refine lv_iload_n hx hb (dq dt_X9_far 1 rfl) rfl (lv_at hl 1 rfl) ?_
  refine lv_icmp_ge (tgt := 11) hx hb (dq dt_X9_far 2 rfl) (by decide) (fun c1 => ?_) (fun c1 => ?_)
  · replace hF := if_t c1 hF
    refine lv_iload_n hx hb (dq dt_X9_far 7 rfl) rfl (lv_at hl 0 rfl) ?_
    refine lv_iload_n hx hb (dq dt_X9_far 8 rfl) rfl (lv_at hl 1 rfl) ?_
    refine lv_isub hx hb (dq dt_X9_far 9 rfl) ?_
    cases hF
    exact kRetI hQ C hw (dq dt_X9_far 10 rfl)
  · replace hF := if_f c1 hF
    refine lv_iload_n hx hb (dq dt_X9_far 3 rfl) rfl (lv_at hl 1 rfl) ?_
    refine lv_iload_n hx hb (dq dt_X9_far 4 rfl) rfl (lv_at hl 0 rfl) ?_
    refine lv_isub hx hb (dq dt_X9_far 5 rfl) ?_
    refine lv_goto (tgt := 14) hx hb (dq dt_X9_far 6 rfl) (by decide) ?_
    cases hF
    exact kRetI hQ C hw (dq dt_X9_far 10 rfl)
def F_X9_copy (m_row : Nat → Int32) (p1 : Int32) (p2 : Int32) : Option ((Nat → Int32)) :=
  zl2 (fun x1 h2 ag3 => if (19 : Int32) ≤ x1 then (some h2) else (rd 95 h2 (p1 + x1) (fun v5 => wr 95 (p2 + x1) (upd h2 ((p2 + x1)).toNatClampNeg v5) (fun g7 => bd (x1 + (1 : Int32)) (fun v9 => ag3 v9 g7))))) FU (0 : Int32) m_row
abbrev rm_X9_copy : Room := { frames := 0, cells := 0, slots := 0, locals := 0 }
theorem kd_X9_copy : yX9_copy.cls = RX9 ∧ yX9_copy.cls ≠ "java/lang/invoke/MethodHandle" ∧ yX9_copy.cls ≠ "java/lang/invoke/VarHandle" ∧ (parseMethodDescriptor yX9_copy.desc).map (fun d => d.parameters.length) = some 2 := by decide +kernel
set_option maxRecDepth 100000 in
set_option maxHeartbeats 4000000 in
theorem A_X9_copy (l : Launch) (D : va_G) (cB cI cJ cZ : ClassId) (ad : (Nat → Nat) × (Nat → Nat)) (a_m a_m_row a_m_isKept a_m_text a_m_read a_m_tides a_m_seeps a_m_kinds a_m_paces a_m_ears a_m_hearers a_m_chosen a_m_dues a_m_sights : Nat) (m_length : Int32) (m_readMany : Int32) (m_yards : Int32) (m_seepMany : Int32) (m_many : Int32) (m_at : Int32) (m_place : Int32) (m_end : Int32) (m_readYards : Int32) (m_readSeeps : Int32) (m_readChildren : Int32) (m_chosenMany : Int32) (m_seenMany : Int32) (m_row : Nat → Int32) (p1 : Int32) (p2 : Int32) (m_row' : Nat → Int32) (hF : F_X9_copy m_row p1 p2 = some m_row') : kM l yX9_copy (Cond.code yX9_copy cX9_copy 4 (none) :: W0) rm_X9_copy D (kT cB cI cJ cZ) ad [.ref a_m, .int p1, .int p2] [(a_m, .inr (9, [.ref a_m_row, .ref a_m_isKept, .ref a_m_text, .int m_length, .ref a_m_read, .int m_readMany, .int m_yards, .ref a_m_tides, .ref a_m_seeps, .int m_seepMany, .ref a_m_kinds, .ref a_m_paces, .ref a_m_ears, .int m_many, .int m_at, .int m_place, .int m_end, .int m_readYards, .int m_readSeeps, .int m_readChildren, .ref a_m_hearers, .ref a_m_chosen, .int m_chosenMany, .ref a_m_dues, .ref a_m_sights, .int m_seenMany])), (a_m_row, .inl (cI, 95, .inl m_row))] none [(a_m, .inr (9, [.ref a_m_row, .ref a_m_isKept, .ref a_m_text, .int m_length, .ref a_m_read, .int m_readMany, .int m_yards, .ref a_m_tides, .ref a_m_seeps, .int m_seepMany, .ref a_m_kinds, .ref a_m_paces, .ref a_m_ears, .int m_many, .int m_at, .int m_place, .int m_end, .int m_readYards, .int m_readSeeps, .int m_readChildren, .ref a_m_hearers, .ref a_m_chosen, .int m_chosenMany, .ref a_m_dues, .ref a_m_sights, .int m_seenMany])), (a_m_row, .inl (cI, 95, .inl (m_row')))] := by
  unfold F_X9_copy at hF
  refine kStart (lv := [(0, .ref a_m), (1, .int p1), (2, .int p2)]) (own := "DikeWatchModel") (plainFor_of_name (by decide)) rfl (Nat.le_of_ble_eq_true rfl) rfl ?_
  intro p e s m args below meth c A Q ls hQ C hx hb hw hl
  refine lv_iconst (v := (0 : Int32)) hx hb (dq dt_X9_copy 0 rfl) (by decide) ?_
  refine lv_istore_n (lv' := [(3, .int (0 : Int32)), (0, .ref a_m), (1, .int p1), (2, .int p2)]) hx hb (dq dt_X9_copy 1 rfl) rfl hl (by decide) rfl (fun ls hl => ?_)
  obtain ⟨K3, hK03, hK3, hF⟩ := zl2_ hF
  have L3 : ∀ (n : Nat) (x1 : Int32) (h2 : Nat → Int32), K3 n x1 h2 = some m_row' → ∀ (H : Heap) (locs : List Loc) (ls : Array Slot), kW D A s.heap [(a_m, .inr (9, [.ref a_m_row, .ref a_m_isKept, .ref a_m_text, .int m_length, .ref a_m_read, .int m_readMany, .int m_yards, .ref a_m_tides, .ref a_m_seeps, .int m_seepMany, .ref a_m_kinds, .ref a_m_paces, .ref a_m_ears, .int m_many, .int m_at, .int m_place, .int m_end, .int m_readYards, .int m_readSeeps, .int m_readChildren, .ref a_m_hearers, .ref a_m_chosen, .int m_chosenMany, .ref a_m_dues, .ref a_m_sights, .int m_seenMany])), (a_m_row, .inl (cI, 95, .inl h2))] H locs → lv_has ls 4 [(0, .ref a_m), (1, .int p1), (2, .int p2), (3, .int x1)] → W p l e rm_X9_copy s m args below meth c H locs 0 0 Q (F0 m 2 ls []) := by
    intro n
    induction n with
    | zero => intro x1 h2 hF; exact (lp_no (hK03 x1 h2) hF).elim
    | succ n ih3 =>
      intro x1 h2 hF H locs ls hw hl
      replace hF := hK3 n x1 h2 hF
      refine lv_iload_n hx hb (dq dt_X9_copy 2 rfl) rfl (lv_at hl 3 rfl) ?_
      refine lv_bipush (v := (19 : Int32)) hx hb (dq dt_X9_copy 3 rfl) (by decide) ?_
      refine lv_icmp_ge (tgt := 30) hx hb (dq dt_X9_copy 4 rfl) (by decide) (fun c4 => ?_) (fun c4 => ?_)
      · replace hF := if_t c4 hF
        cases hF
        exact kRetV hQ C hw (dq dt_X9_copy 19 rfl)
      · replace hF := if_f c4 hF
        refine lv_aload_n hx hb (dq dt_X9_copy 5 rfl) rfl (lv_at hl 0 rfl) ?_
        refine kGet (ci := 9) C in_X9 hw 0 rfl rfl 0 (by decide) (C.2.2.2.2.2.2.1 _ q4_95) rfl rfl (dq dt_X9_copy 6 rfl) ?_
        refine lv_iload_n hx hb (dq dt_X9_copy 7 rfl) rfl (lv_at hl 2 rfl) ?_
        refine lv_iload_n hx hb (dq dt_X9_copy 8 rfl) rfl (lv_at hl 3 rfl) ?_
        refine lv_iadd hx hb (dq dt_X9_copy 9 rfl) ?_
        refine lv_aload_n hx hb (dq dt_X9_copy 10 rfl) rfl (lv_at hl 0 rfl) ?_
        refine kGet (ci := 9) C in_X9 hw 0 rfl rfl 0 (by decide) (C.2.2.2.2.2.2.1 _ q4_95) rfl rfl (dq dt_X9_copy 11 rfl) ?_
        refine lv_iload_n hx hb (dq dt_X9_copy 12 rfl) rfl (lv_at hl 1 rfl) ?_
        refine lv_iload_n hx hb (dq dt_X9_copy 13 rfl) rfl (lv_at hl 3 rfl) ?_
        refine lv_iadd hx hb (dq dt_X9_copy 14 rfl) ?_
        obtain ⟨v5, ev5, hi6, hF⟩ := rd_ hF
        refine kIald C hw 1 1 rfl rfl hi6 ev5 (dq dt_X9_copy 15 rfl) ?_
        obtain ⟨g7, eg7, hi8, hF⟩ := wr_ hF
        refine kIast (ws' := [(a_m, .inr (9, [.ref a_m_row, .ref a_m_isKept, .ref a_m_text, .int m_length, .ref a_m_read, .int m_readMany, .int m_yards, .ref a_m_tides, .ref a_m_seeps, .int m_seepMany, .ref a_m_kinds, .ref a_m_paces, .ref a_m_ears, .int m_many, .int m_at, .int m_place, .int m_end, .int m_readYards, .int m_readSeeps, .int m_readChildren, .ref a_m_hearers, .ref a_m_chosen, .int m_chosenMany, .ref a_m_dues, .ref a_m_sights, .int m_seenMany])), (a_m_row, .inl (cI, 95, .inl g7))]) C hw 1 1 rfl rfl hi8 eg7 rfl (dq dt_X9_copy 16 rfl) (fun H locs hw => ?_)
        obtain ⟨v9, ev9, hF⟩ := bd_ hF
        refine lv_iinc (v := v9) (lv' := [(3, .int v9), (0, .ref a_m), (1, .int p1), (2, .int p2)]) hx hb (dq dt_X9_copy 17 rfl) hl (k := 3) rfl ev9.symm (by decide) rfl (fun ls hl => ?_)
        refine lv_goto (tgt := 2) hx hb (dq dt_X9_copy 18 rfl) (by decide) ?_
        exact ih3 v9 g7 hF _ _ _ hw (lv_sub hl [1, 2, 3, 0] rfl)
  exact L3 _ (0 : Int32) m_row hF _ _ _ hw (lv_sub hl [1, 2, 3, 0] rfl)
def F_X9_write (m_length : Int32) (m_text : Nat → Int32) (p1 : Int64) (p2 : Int32) : Option (Int32 × Int32 × (Nat → Int32)) :=
  zc1 (F_X9_in (p2.toInt64) (1 : Int64) (8 : Int64)) (fun v1 => if v1 = 0 then (some ((-3 : Int32), m_length, m_text)) else (if (m_length + p2) ≤ (200 : Int32) then (zl3 (fun x5 h6 h7 ag8 => if p2 ≤ x5 then (some (h6, h6, h7)) else (bd (((p1 >>> (((8 : Int32) * x5).toInt64 &&& 63)) &&& (255 : Int64)).toInt32) (fun v10 => wr 200 h6 (upd h7 (h6).toNatClampNeg v10) (fun g11 => bd (h6 + (1 : Int32)) (fun v13 => bd (x5 + (1 : Int32)) (fun v14 => ag8 v14 v13 g11)))))) FU (0 : Int32) m_length m_text) else (some ((-5 : Int32), m_length, m_text))))
abbrev rm_X9_write : Room := { frames := 1, cells := 0, slots := 0, locals := 25 }
theorem kd_X9_write : yX9_write.cls = RX9 ∧ yX9_write.cls ≠ "java/lang/invoke/MethodHandle" ∧ yX9_write.cls ≠ "java/lang/invoke/VarHandle" ∧ (parseMethodDescriptor yX9_write.desc).map (fun d => d.parameters.length) = some 2 := by decide +kernel
set_option maxRecDepth 100000 in
set_option maxHeartbeats 4000000 in
theorem A_X9_write (l : Launch) (D : va_G) (cB cI cJ cZ : ClassId) (ad : (Nat → Nat) × (Nat → Nat)) (a_m a_m_row a_m_isKept a_m_text a_m_read a_m_tides a_m_seeps a_m_kinds a_m_paces a_m_ears a_m_hearers a_m_chosen a_m_dues a_m_sights : Nat) (m_length : Int32) (m_readMany : Int32) (m_yards : Int32) (m_seepMany : Int32) (m_many : Int32) (m_at : Int32) (m_place : Int32) (m_end : Int32) (m_readYards : Int32) (m_readSeeps : Int32) (m_readChildren : Int32) (m_chosenMany : Int32) (m_seenMany : Int32) (m_text : Nat → Int32) (p1 : Int64) (p2 : Int32) (r : Int32) (m_length' : Int32) (m_text' : Nat → Int32) (hF : F_X9_write m_length m_text p1 p2 = some (r, m_length', m_text')) : kM l yX9_write (Cond.code yX9_write cX9_write 5 (some .int) :: W0) rm_X9_write D (kT cB cI cJ cZ) ad [.ref a_m, .long p1, .int p2] [(a_m, .inr (9, [.ref a_m_row, .ref a_m_isKept, .ref a_m_text, .int m_length, .ref a_m_read, .int m_readMany, .int m_yards, .ref a_m_tides, .ref a_m_seeps, .int m_seepMany, .ref a_m_kinds, .ref a_m_paces, .ref a_m_ears, .int m_many, .int m_at, .int m_place, .int m_end, .int m_readYards, .int m_readSeeps, .int m_readChildren, .ref a_m_hearers, .ref a_m_chosen, .int m_chosenMany, .ref a_m_dues, .ref a_m_sights, .int m_seenMany])), (a_m_text, .inl (cI, 200, .inl m_text))] (some (.int r)) [(a_m, .inr (9, [.ref a_m_row, .ref a_m_isKept, .ref a_m_text, .int (m_length'), .ref a_m_read, .int m_readMany, .int m_yards, .ref a_m_tides, .ref a_m_seeps, .int m_seepMany, .ref a_m_kinds, .ref a_m_paces, .ref a_m_ears, .int m_many, .int m_at, .int m_place, .int m_end, .int m_readYards, .int m_readSeeps, .int m_readChildren, .ref a_m_hearers, .ref a_m_chosen, .int m_chosenMany, .ref a_m_dues, .ref a_m_sights, .int m_seenMany])), (a_m_text, .inl (cI, 200, .inl (m_text')))] := by
  unfold F_X9_write at hF
  refine kStart (lv := [(0, .ref a_m), (1, .long p1), (3, .int p2)]) (own := "DikeWatchModel") (plainFor_of_name (by decide)) rfl (Nat.le_of_ble_eq_true rfl) rfl ?_
  intro p e s m args below meth c A Q ls hQ C hx hb hw hl
  refine lv_iload_n hx hb (dq dt_X9_write 0 rfl) rfl (lv_at hl 2 rfl) ?_
  refine lv_i2l (v := (p2.toInt64)) hx hb (dq dt_X9_write 1 rfl) rfl ?_
  refine lv_lconst (v := (1 : Int64)) hx hb (dq dt_X9_write 2 rfl) (by decide) ?_
  refine lv_ldc2 (v := (8 : Int64)) hx hb C.2.2.2.2.2.1 (C.2.2.2.2.2.2.1 _ q4_179) (dq dt_X9_write 3 rfl) ?_
  obtain ⟨v1, hr2, hF⟩ := zc1_ hF
  refine kCallSP C hw (A_X9_in l D cB cI cJ cZ ad (p2.toInt64) (1 : Int64) (8 : Int64) v1 hr2) (va_cwS 3 C.2.2.2.2.2.2.1 (w0_S0 q4_182 q4_180 q4_181 q1_10) rfl rfl rfl ke_X9_in ⟨Nat.le_of_ble_eq_true rfl, Nat.le_of_ble_eq_true rfl⟩) hl.1 rfl rfl rfl (Nat.le_of_ble_eq_true rfl) ⟨Nat.le_of_ble_eq_true rfl, Nat.le_of_ble_eq_true rfl⟩ (dq dt_X9_write 4 rfl) (fun H locs hw => ?_)
  refine lv_if_ne (tgt := 15) hx hb (dq dt_X9_write 5 rfl) (by decide) (fun c3 => ?_) (fun c3 => ?_)
  · replace hF := if_f c3 hF
    refine lv_aload_n hx hb (dq dt_X9_write 8 rfl) rfl (lv_at hl 0 rfl) ?_
    refine kGet (ci := 9) C in_X9 hw 0 rfl rfl 3 (by decide) (C.2.2.2.2.2.2.1 _ q4_98) rfl rfl (dq dt_X9_write 9 rfl) ?_
    refine lv_iload_n hx hb (dq dt_X9_write 10 rfl) rfl (lv_at hl 2 rfl) ?_
    refine lv_iadd hx hb (dq dt_X9_write 11 rfl) ?_
    refine lv_sipush (v := (200 : Int32)) hx hb (dq dt_X9_write 12 rfl) (by decide) ?_
    refine lv_icmp_le (tgt := 30) hx hb (dq dt_X9_write 13 rfl) (by decide) (fun c4 => ?_) (fun c4 => ?_)
    · replace hF := if_t c4 hF
      refine lv_iconst (v := (0 : Int32)) hx hb (dq dt_X9_write 16 rfl) (by decide) ?_
      refine lv_istore (lv' := [(4, .int (0 : Int32)), (0, .ref a_m), (1, .long p1), (3, .int p2)]) hx hb (dq dt_X9_write 17 rfl) hl (by decide) rfl (fun ls hl => ?_)
      obtain ⟨K8, hK08, hK8, hF⟩ := zl3_ hF
      have L8 : ∀ (n : Nat) (x5 : Int32) (h6 : Int32) (h7 : Nat → Int32), K8 n x5 h6 h7 = some (r, m_length', m_text') → ∀ (H : Heap) (locs : List Loc) (ls : Array Slot), kW D A s.heap [(a_m, .inr (9, [.ref a_m_row, .ref a_m_isKept, .ref a_m_text, .int h6, .ref a_m_read, .int m_readMany, .int m_yards, .ref a_m_tides, .ref a_m_seeps, .int m_seepMany, .ref a_m_kinds, .ref a_m_paces, .ref a_m_ears, .int m_many, .int m_at, .int m_place, .int m_end, .int m_readYards, .int m_readSeeps, .int m_readChildren, .ref a_m_hearers, .ref a_m_chosen, .int m_chosenMany, .ref a_m_dues, .ref a_m_sights, .int m_seenMany])), (a_m_text, .inl (cI, 200, .inl h7))] H locs → lv_has ls 5 [(0, .ref a_m), (1, .long p1), (3, .int p2), (4, .int x5)] → W p l e rm_X9_write s m args below meth c H locs 0 0 Q (F0 m 33 ls []) := by
        intro n
        induction n with
        | zero => intro x5 h6 h7 hF; exact (lp_no (hK08 x5 h6 h7) hF).elim
        | succ n ih8 =>
          intro x5 h6 h7 hF H locs ls hw hl
          replace hF := hK8 n x5 h6 h7 hF
          refine lv_iload hx hb (dq dt_X9_write 18 rfl) (lv_at hl 3 rfl) ?_
          refine lv_iload_n hx hb (dq dt_X9_write 19 rfl) rfl (lv_at hl 2 rfl) ?_
          refine lv_icmp_ge (tgt := 76) hx hb (dq dt_X9_write 20 rfl) (by decide) (fun c9 => ?_) (fun c9 => ?_)
          · replace hF := if_t c9 hF
            refine lv_aload_n hx hb (dq dt_X9_write 42 rfl) rfl (lv_at hl 0 rfl) ?_
            refine kGet (ci := 9) C in_X9 hw 0 rfl rfl 3 (by decide) (C.2.2.2.2.2.2.1 _ q4_98) rfl rfl (dq dt_X9_write 43 rfl) ?_
            cases hF
            exact kRetI hQ C hw (dq dt_X9_write 44 rfl)
          · replace hF := if_f c9 hF
            refine lv_aload_n hx hb (dq dt_X9_write 21 rfl) rfl (lv_at hl 0 rfl) ?_
            refine kGet (ci := 9) C in_X9 hw 0 rfl rfl 2 (by decide) (C.2.2.2.2.2.2.1 _ q4_97) rfl rfl (dq dt_X9_write 22 rfl) ?_
            refine lv_aload_n hx hb (dq dt_X9_write 23 rfl) rfl (lv_at hl 0 rfl) ?_
            refine kGet (ci := 9) C in_X9 hw 0 rfl rfl 3 (by decide) (C.2.2.2.2.2.2.1 _ q4_98) rfl rfl (dq dt_X9_write 24 rfl) ?_
            refine lv_lload_n hx hb (dq dt_X9_write 25 rfl) rfl (lv_at hl 1 rfl) ?_
            refine lv_bipush (v := (8 : Int32)) hx hb (dq dt_X9_write 26 rfl) (by decide) ?_
            refine lv_iload hx hb (dq dt_X9_write 27 rfl) (lv_at hl 3 rfl) ?_
            refine lv_imul hx hb (dq dt_X9_write 28 rfl) ?_
            refine lv_lshr (v := (p1 >>> (((8 : Int32) * x5).toInt64 &&& 63))) hx hb (dq dt_X9_write 29 rfl) rfl ?_
            refine lv_ldc2 (v := (255 : Int64)) hx hb C.2.2.2.2.2.1 (C.2.2.2.2.2.2.1 _ q4_183) (dq dt_X9_write 30 rfl) ?_
            refine lv_land hx hb (dq dt_X9_write 31 rfl) ?_
            refine lv_l2i (v := (((p1 >>> (((8 : Int32) * x5).toInt64 &&& 63)) &&& (255 : Int64)).toInt32)) hx hb (dq dt_X9_write 32 rfl) rfl ?_
            obtain ⟨v10, ev10, hF⟩ := bd_ hF
            refine kNmI ev10 ?_
            obtain ⟨g11, eg11, hi12, hF⟩ := wr_ hF
            refine kIast (ws' := [(a_m, .inr (9, [.ref a_m_row, .ref a_m_isKept, .ref a_m_text, .int h6, .ref a_m_read, .int m_readMany, .int m_yards, .ref a_m_tides, .ref a_m_seeps, .int m_seepMany, .ref a_m_kinds, .ref a_m_paces, .ref a_m_ears, .int m_many, .int m_at, .int m_place, .int m_end, .int m_readYards, .int m_readSeeps, .int m_readChildren, .ref a_m_hearers, .ref a_m_chosen, .int m_chosenMany, .ref a_m_dues, .ref a_m_sights, .int m_seenMany])), (a_m_text, .inl (cI, 200, .inl g11))]) C hw 1 1 rfl rfl hi12 eg11 rfl (dq dt_X9_write 33 rfl) (fun H locs hw => ?_)
            refine lv_aload_n hx hb (dq dt_X9_write 34 rfl) rfl (lv_at hl 0 rfl) ?_
            refine lv_dup hx hb (dq dt_X9_write 35 rfl) rfl ?_
            refine kGet (ci := 9) C in_X9 hw 0 rfl rfl 3 (by decide) (C.2.2.2.2.2.2.1 _ q4_98) rfl rfl (dq dt_X9_write 36 rfl) ?_
            refine lv_iconst (v := (1 : Int32)) hx hb (dq dt_X9_write 37 rfl) (by decide) ?_
            refine lv_iadd hx hb (dq dt_X9_write 38 rfl) ?_
            obtain ⟨v13, ev13, hF⟩ := bd_ hF
            refine kNmI ev13 ?_
            refine kPut (ci := 9) (ws' := [(a_m, .inr (9, [.ref a_m_row, .ref a_m_isKept, .ref a_m_text, .int v13, .ref a_m_read, .int m_readMany, .int m_yards, .ref a_m_tides, .ref a_m_seeps, .int m_seepMany, .ref a_m_kinds, .ref a_m_paces, .ref a_m_ears, .int m_many, .int m_at, .int m_place, .int m_end, .int m_readYards, .int m_readSeeps, .int m_readChildren, .ref a_m_hearers, .ref a_m_chosen, .int m_chosenMany, .ref a_m_dues, .ref a_m_sights, .int m_seenMany])), (a_m_text, .inl (cI, 200, .inl g11))]) C in_X9 tyX9 tyX9_ok nmX9 hw 0 rfl rfl 3 (by decide) (C.2.2.2.2.2.2.1 _ q4_98) rfl rfl rfl rfl (Nat.le_of_ble_eq_true rfl) rfl (dq dt_X9_write 39 rfl) (fun H locs hw => ?_)
            obtain ⟨v14, ev14, hF⟩ := bd_ hF
            refine lv_iinc (v := v14) (lv' := [(4, .int v14), (0, .ref a_m), (1, .long p1), (3, .int p2)]) hx hb (dq dt_X9_write 40 rfl) hl (k := 3) rfl ev14.symm (by decide) rfl (fun ls hl => ?_)
            refine lv_goto (tgt := 33) hx hb (dq dt_X9_write 41 rfl) (by decide) ?_
            exact ih8 v14 v13 g11 hF _ _ _ hw (lv_sub hl [1, 2, 3, 0] rfl)
      exact L8 _ (0 : Int32) m_length m_text hF _ _ _ hw (lv_sub hl [1, 2, 3, 0] rfl)
    · replace hF := if_f c4 hF
      refine lv_bipush (v := (-5 : Int32)) hx hb (dq dt_X9_write 14 rfl) (by decide) ?_
      cases hF
      exact kRetI hQ C hw (dq dt_X9_write 15 rfl)
  · replace hF := if_t c3 hF
    refine lv_bipush (v := (-3 : Int32)) hx hb (dq dt_X9_write 6 rfl) (by decide) ?_
    cases hF
    exact kRetI hQ C hw (dq dt_X9_write 7 rfl)
def F_X9_erase (m_length : Int32) : Option (Int32 × Int32) :=
  some (m_length, (0 : Int32))
abbrev rm_X9_erase : Room := { frames := 0, cells := 0, slots := 0, locals := 0 }
theorem kd_X9_erase : yX9_erase.cls = RX9 ∧ yX9_erase.cls ≠ "java/lang/invoke/MethodHandle" ∧ yX9_erase.cls ≠ "java/lang/invoke/VarHandle" ∧ (parseMethodDescriptor yX9_erase.desc).map (fun d => d.parameters.length) = some 0 := by decide +kernel
set_option maxRecDepth 100000 in
set_option maxHeartbeats 4000000 in
theorem A_X9_erase (l : Launch) (D : va_G) (cB cI cJ cZ : ClassId) (ad : (Nat → Nat) × (Nat → Nat)) (a_m a_m_row a_m_isKept a_m_text a_m_read a_m_tides a_m_seeps a_m_kinds a_m_paces a_m_ears a_m_hearers a_m_chosen a_m_dues a_m_sights : Nat) (m_length : Int32) (m_readMany : Int32) (m_yards : Int32) (m_seepMany : Int32) (m_many : Int32) (m_at : Int32) (m_place : Int32) (m_end : Int32) (m_readYards : Int32) (m_readSeeps : Int32) (m_readChildren : Int32) (m_chosenMany : Int32) (m_seenMany : Int32) (r : Int32) (m_length' : Int32) (hF : F_X9_erase m_length = some (r, m_length')) : kM l yX9_erase (Cond.code yX9_erase cX9_erase 2 (some .int) :: W0) rm_X9_erase D (kT cB cI cJ cZ) ad [.ref a_m] [(a_m, .inr (9, [.ref a_m_row, .ref a_m_isKept, .ref a_m_text, .int m_length, .ref a_m_read, .int m_readMany, .int m_yards, .ref a_m_tides, .ref a_m_seeps, .int m_seepMany, .ref a_m_kinds, .ref a_m_paces, .ref a_m_ears, .int m_many, .int m_at, .int m_place, .int m_end, .int m_readYards, .int m_readSeeps, .int m_readChildren, .ref a_m_hearers, .ref a_m_chosen, .int m_chosenMany, .ref a_m_dues, .ref a_m_sights, .int m_seenMany]))] (some (.int r)) [(a_m, .inr (9, [.ref a_m_row, .ref a_m_isKept, .ref a_m_text, .int (m_length'), .ref a_m_read, .int m_readMany, .int m_yards, .ref a_m_tides, .ref a_m_seeps, .int m_seepMany, .ref a_m_kinds, .ref a_m_paces, .ref a_m_ears, .int m_many, .int m_at, .int m_place, .int m_end, .int m_readYards, .int m_readSeeps, .int m_readChildren, .ref a_m_hearers, .ref a_m_chosen, .int m_chosenMany, .ref a_m_dues, .ref a_m_sights, .int m_seenMany]))] := by
  unfold F_X9_erase at hF
  refine kStart (lv := [(0, .ref a_m)]) (own := "DikeWatchModel") (plainFor_of_name (by decide)) rfl (Nat.le_of_ble_eq_true rfl) rfl ?_
  intro p e s m args below meth c A Q ls hQ C hx hb hw hl
  refine lv_aload_n hx hb (dq dt_X9_erase 0 rfl) rfl (lv_at hl 0 rfl) ?_
  refine kGet (ci := 9) C in_X9 hw 0 rfl rfl 3 (by decide) (C.2.2.2.2.2.2.1 _ q4_98) rfl rfl (dq dt_X9_erase 1 rfl) ?_
  refine lv_istore_n (lv' := [(1, .int m_length), (0, .ref a_m)]) hx hb (dq dt_X9_erase 2 rfl) rfl hl (by decide) rfl (fun ls hl => ?_)
  refine lv_aload_n hx hb (dq dt_X9_erase 3 rfl) rfl (lv_at hl 1 rfl) ?_
  refine lv_iconst (v := (0 : Int32)) hx hb (dq dt_X9_erase 4 rfl) (by decide) ?_
  refine kPut (ci := 9) (ws' := [(a_m, .inr (9, [.ref a_m_row, .ref a_m_isKept, .ref a_m_text, .int (0 : Int32), .ref a_m_read, .int m_readMany, .int m_yards, .ref a_m_tides, .ref a_m_seeps, .int m_seepMany, .ref a_m_kinds, .ref a_m_paces, .ref a_m_ears, .int m_many, .int m_at, .int m_place, .int m_end, .int m_readYards, .int m_readSeeps, .int m_readChildren, .ref a_m_hearers, .ref a_m_chosen, .int m_chosenMany, .ref a_m_dues, .ref a_m_sights, .int m_seenMany]))]) C in_X9 tyX9 tyX9_ok nmX9 hw 0 rfl rfl 3 (by decide) (C.2.2.2.2.2.2.1 _ q4_98) rfl rfl rfl rfl (Nat.le_of_ble_eq_true rfl) rfl (dq dt_X9_erase 5 rfl) (fun H locs hw => ?_)
  refine lv_iload_n hx hb (dq dt_X9_erase 6 rfl) rfl (lv_at hl 0 rfl) ?_
  cases hF
  exact kRetI hQ C hw (dq dt_X9_erase 7 rfl)
def F_X9_sort (p1 : Int32) : Option (Int32) :=
  zj0 (if p1 < (48 : Int32) then (some (0 : Int32)) else (if (57 : Int32) < p1 then (some (0 : Int32)) else (some (2 : Int32)))) (fun K1 => if p1 < (97 : Int32) then (K1) else (if (122 : Int32) < p1 then (K1) else (some (1 : Int32))))
abbrev rm_X9_sort : Room := { frames := 0, cells := 0, slots := 0, locals := 0 }
theorem ke_X9_sort : yX9_sort.cls ≠ "java/lang/invoke/MethodHandle" ∧ yX9_sort.cls ≠ "java/lang/invoke/VarHandle" ∧ (parseMethodDescriptor yX9_sort.desc).map (fun d => d.parameters.length) = some 1 := by decide +kernel
set_option maxRecDepth 100000 in
set_option maxHeartbeats 4000000 in
theorem A_X9_sort (l : Launch) (D : va_G) (cB cI cJ cZ : ClassId) (ad : (Nat → Nat) × (Nat → Nat)) (p1 : Int32) (r : Int32) (hF : F_X9_sort p1 = some r) : kM l yX9_sort (Cond.code yX9_sort cX9_sort 1 (some .int) :: W0) rm_X9_sort D (kT cB cI cJ cZ) ad [.int p1] [] (some (.int r)) [] := by
  unfold F_X9_sort at hF
  refine kStart (lv := [(0, .int p1)]) (own := "DikeWatchModel") (plainFor_of_name (by decide)) rfl (Nat.le_of_ble_eq_true rfl) rfl ?_
  intro p e s m args below meth c A Q ls hQ C hx hb hw hl
  refine lv_iload_n hx hb (dq dt_X9_sort 0 rfl) rfl (lv_at hl 0 rfl) ?_
  refine lv_bipush (v := (97 : Int32)) hx hb (dq dt_X9_sort 1 rfl) (by decide) ?_
  obtain ⟨K1, hK1, hF⟩ := zj0_ hF
  have J1 : K1 = some r → ∀ (H : Heap) (locs : List Loc) (ls : Array Slot), kW D A s.heap [] H locs → lv_has ls 1 [(0, .int p1)] → W p l e rm_X9_sort s m args below meth c H locs 0 0 Q (F0 m 16 ls []) := by
    intro hF H locs ls hw hl
    replace hF := hK1 hF
    refine lv_iload_n hx hb (dq dt_X9_sort 8 rfl) rfl (lv_at hl 0 rfl) ?_
    refine lv_bipush (v := (48 : Int32)) hx hb (dq dt_X9_sort 9 rfl) (by decide) ?_
    refine lv_icmp_lt (tgt := 32) hx hb (dq dt_X9_sort 10 rfl) (by decide) (fun c2 => ?_) (fun c2 => ?_)
    · replace hF := if_t c2 hF
      refine lv_iconst (v := (0 : Int32)) hx hb (dq dt_X9_sort 16 rfl) (by decide) ?_
      cases hF
      exact kRetI hQ C hw (dq dt_X9_sort 17 rfl)
    · replace hF := if_f c2 hF
      refine lv_iload_n hx hb (dq dt_X9_sort 11 rfl) rfl (lv_at hl 0 rfl) ?_
      refine lv_bipush (v := (57 : Int32)) hx hb (dq dt_X9_sort 12 rfl) (by decide) ?_
      refine lv_icmp_gt (tgt := 32) hx hb (dq dt_X9_sort 13 rfl) (by decide) (fun c3 => ?_) (fun c3 => ?_)
      · replace hF := if_t c3 hF
        refine lv_iconst (v := (0 : Int32)) hx hb (dq dt_X9_sort 16 rfl) (by decide) ?_
        cases hF
        exact kRetI hQ C hw (dq dt_X9_sort 17 rfl)
      · replace hF := if_f c3 hF
        refine lv_iconst (v := (2 : Int32)) hx hb (dq dt_X9_sort 14 rfl) (by decide) ?_
        refine lv_goto (tgt := 33) hx hb (dq dt_X9_sort 15 rfl) (by decide) ?_
        cases hF
        exact kRetI hQ C hw (dq dt_X9_sort 17 rfl)
  refine lv_icmp_lt (tgt := 16) hx hb (dq dt_X9_sort 2 rfl) (by decide) (fun c4 => ?_) (fun c4 => ?_)
  · replace hF := if_t c4 hF
    exact J1 hF _ _ _ hw (lv_sub hl [0] rfl)
  · replace hF := if_f c4 hF
    refine lv_iload_n hx hb (dq dt_X9_sort 3 rfl) rfl (lv_at hl 0 rfl) ?_
    refine lv_bipush (v := (122 : Int32)) hx hb (dq dt_X9_sort 4 rfl) (by decide) ?_
    refine lv_icmp_gt (tgt := 16) hx hb (dq dt_X9_sort 5 rfl) (by decide) (fun c5 => ?_) (fun c5 => ?_)
    · replace hF := if_t c5 hF
      exact J1 hF _ _ _ hw (lv_sub hl [0] rfl)
    · replace hF := if_f c5 hF
      refine lv_iconst (v := (1 : Int32)) hx hb (dq dt_X9_sort 6 rfl) (by decide) ?_
      refine lv_goto (tgt := 33) hx hb (dq dt_X9_sort 7 rfl) (by decide) ?_
      cases hF
      exact kRetI hQ C hw (dq dt_X9_sort 17 rfl)
def F_X9_token (m_length : Int32) (m_at : Int32) (m_place : Int32) (m_end : Int32) (m_text : Nat → Int32) : Option (Int32 × Int32 × Int32) :=
  zl1 (fun h1 ag2 => zj0 (zj1 (fun y4 => bd (h1 + y4) (fun v6 => zl1 (fun h7 ag8 => zj0 (some (h7, h1, h7)) (fun K9 => if m_length ≤ h7 then (K9) else (rd 200 m_text h1 (fun v11 => zc1 (F_X9_sort v11) (fun v13 => if v13 ≤ 0 then (K9) else (rd 200 m_text h7 (fun v16 => zc1 (F_X9_sort v16) (fun v18 => rd 200 m_text h1 (fun v20 => zc1 (F_X9_sort v20) (fun v22 => if v18 = v22 then (bd (h7 + (1 : Int32)) (fun v25 => ag8 v25)) else (K9))))))))))) FU v6)) (fun K5 => if m_length ≤ h1 then (K5 (0 : Int32)) else (K5 (1 : Int32)))) (fun K3 => if m_length ≤ h1 then (K3) else (rd 200 m_text h1 (fun v28 => if v28 = (32 : Int32) then (bd (h1 + (1 : Int32)) (fun v31 => ag2 v31)) else (K3))))) FU m_at
abbrev rm_X9_token : Room := { frames := 1, cells := 0, slots := 0, locals := 20 }
theorem kd_X9_token : yX9_token.cls = RX9 ∧ yX9_token.cls ≠ "java/lang/invoke/MethodHandle" ∧ yX9_token.cls ≠ "java/lang/invoke/VarHandle" ∧ (parseMethodDescriptor yX9_token.desc).map (fun d => d.parameters.length) = some 0 := by decide +kernel
set_option maxRecDepth 100000 in
set_option maxHeartbeats 4000000 in
theorem A_X9_token (l : Launch) (D : va_G) (cB cI cJ cZ : ClassId) (ad : (Nat → Nat) × (Nat → Nat)) (a_m a_m_row a_m_isKept a_m_text a_m_read a_m_tides a_m_seeps a_m_kinds a_m_paces a_m_ears a_m_hearers a_m_chosen a_m_dues a_m_sights : Nat) (m_length : Int32) (m_readMany : Int32) (m_yards : Int32) (m_seepMany : Int32) (m_many : Int32) (m_at : Int32) (m_place : Int32) (m_end : Int32) (m_readYards : Int32) (m_readSeeps : Int32) (m_readChildren : Int32) (m_chosenMany : Int32) (m_seenMany : Int32) (m_text : Nat → Int32) (m_at' : Int32) (m_place' : Int32) (m_end' : Int32) (hF : F_X9_token m_length m_at m_place m_end m_text = some (m_at', m_place', m_end')) : kM l yX9_token (Cond.code yX9_token cX9_token 1 (none) :: W0) rm_X9_token D (kT cB cI cJ cZ) ad [.ref a_m] [(a_m, .inr (9, [.ref a_m_row, .ref a_m_isKept, .ref a_m_text, .int m_length, .ref a_m_read, .int m_readMany, .int m_yards, .ref a_m_tides, .ref a_m_seeps, .int m_seepMany, .ref a_m_kinds, .ref a_m_paces, .ref a_m_ears, .int m_many, .int m_at, .int m_place, .int m_end, .int m_readYards, .int m_readSeeps, .int m_readChildren, .ref a_m_hearers, .ref a_m_chosen, .int m_chosenMany, .ref a_m_dues, .ref a_m_sights, .int m_seenMany])), (a_m_text, .inl (cI, 200, .inl m_text))] none [(a_m, .inr (9, [.ref a_m_row, .ref a_m_isKept, .ref a_m_text, .int m_length, .ref a_m_read, .int m_readMany, .int m_yards, .ref a_m_tides, .ref a_m_seeps, .int m_seepMany, .ref a_m_kinds, .ref a_m_paces, .ref a_m_ears, .int m_many, .int (m_at'), .int (m_place'), .int (m_end'), .int m_readYards, .int m_readSeeps, .int m_readChildren, .ref a_m_hearers, .ref a_m_chosen, .int m_chosenMany, .ref a_m_dues, .ref a_m_sights, .int m_seenMany])), (a_m_text, .inl (cI, 200, .inl m_text))] := by
  unfold F_X9_token at hF
  refine kStart (lv := [(0, .ref a_m)]) (own := "DikeWatchModel") (plainFor_of_name (by decide)) rfl (Nat.le_of_ble_eq_true rfl) rfl ?_
  intro p e s m args below meth c A Q ls hQ C hx hb hw hl
  obtain ⟨K2, hK02, hK2, hF⟩ := zl1_ hF
  have L2 : ∀ (n : Nat) (h1 : Int32), K2 n h1 = some (m_at', m_place', m_end') → ∀ (H : Heap) (locs : List Loc) (ls : Array Slot), kW D A s.heap [(a_m, .inr (9, [.ref a_m_row, .ref a_m_isKept, .ref a_m_text, .int m_length, .ref a_m_read, .int m_readMany, .int m_yards, .ref a_m_tides, .ref a_m_seeps, .int m_seepMany, .ref a_m_kinds, .ref a_m_paces, .ref a_m_ears, .int m_many, .int h1, .int m_place, .int m_end, .int m_readYards, .int m_readSeeps, .int m_readChildren, .ref a_m_hearers, .ref a_m_chosen, .int m_chosenMany, .ref a_m_dues, .ref a_m_sights, .int m_seenMany])), (a_m_text, .inl (cI, 200, .inl m_text))] H locs → lv_has ls 1 [(0, .ref a_m)] → W p l e rm_X9_token s m args below meth c H locs 0 0 Q (F0 m 0 ls []) := by
    intro n
    induction n with
    | zero => intro h1 hF; exact (lp_no (hK02 h1) hF).elim
    | succ n ih2 =>
      intro h1 hF H locs ls hw hl
      replace hF := hK2 n h1 hF
      refine lv_aload_n hx hb (dq dt_X9_token 0 rfl) rfl (lv_at hl 0 rfl) ?_
      refine kGet (ci := 9) C in_X9 hw 0 rfl rfl 14 (by decide) (C.2.2.2.2.2.2.1 _ q4_109) rfl rfl (dq dt_X9_token 1 rfl) ?_
      refine lv_aload_n hx hb (dq dt_X9_token 2 rfl) rfl (lv_at hl 0 rfl) ?_
      refine kGet (ci := 9) C in_X9 hw 0 rfl rfl 3 (by decide) (C.2.2.2.2.2.2.1 _ q4_98) rfl rfl (dq dt_X9_token 3 rfl) ?_
      obtain ⟨K3, hK3, hF⟩ := zj0_ hF
      have J3 : K3 = some (m_at', m_place', m_end') → ∀ (H : Heap) (locs : List Loc) (ls : Array Slot), kW D A s.heap [(a_m, .inr (9, [.ref a_m_row, .ref a_m_isKept, .ref a_m_text, .int m_length, .ref a_m_read, .int m_readMany, .int m_yards, .ref a_m_tides, .ref a_m_seeps, .int m_seepMany, .ref a_m_kinds, .ref a_m_paces, .ref a_m_ears, .int m_many, .int h1, .int m_place, .int m_end, .int m_readYards, .int m_readSeeps, .int m_readChildren, .ref a_m_hearers, .ref a_m_chosen, .int m_chosenMany, .ref a_m_dues, .ref a_m_sights, .int m_seenMany])), (a_m_text, .inl (cI, 200, .inl m_text))] H locs → lv_has ls 1 [(0, .ref a_m)] → W p l e rm_X9_token s m args below meth c H locs 0 0 Q (F0 m 38 ls []) := by
        intro hF H locs ls hw hl
        replace hF := hK3 hF
        refine lv_aload_n hx hb (dq dt_X9_token 19 rfl) rfl (lv_at hl 0 rfl) ?_
        refine lv_aload_n hx hb (dq dt_X9_token 20 rfl) rfl (lv_at hl 0 rfl) ?_
        refine kGet (ci := 9) C in_X9 hw 0 rfl rfl 14 (by decide) (C.2.2.2.2.2.2.1 _ q4_109) rfl rfl (dq dt_X9_token 21 rfl) ?_
        refine kPut (ci := 9) (ws' := [(a_m, .inr (9, [.ref a_m_row, .ref a_m_isKept, .ref a_m_text, .int m_length, .ref a_m_read, .int m_readMany, .int m_yards, .ref a_m_tides, .ref a_m_seeps, .int m_seepMany, .ref a_m_kinds, .ref a_m_paces, .ref a_m_ears, .int m_many, .int h1, .int h1, .int m_end, .int m_readYards, .int m_readSeeps, .int m_readChildren, .ref a_m_hearers, .ref a_m_chosen, .int m_chosenMany, .ref a_m_dues, .ref a_m_sights, .int m_seenMany])), (a_m_text, .inl (cI, 200, .inl m_text))]) C in_X9 tyX9 tyX9_ok nmX9 hw 0 rfl rfl 15 (by decide) (C.2.2.2.2.2.2.1 _ q4_110) rfl rfl rfl rfl (Nat.le_of_ble_eq_true rfl) rfl (dq dt_X9_token 22 rfl) (fun H locs hw => ?_)
        refine lv_aload_n hx hb (dq dt_X9_token 23 rfl) rfl (lv_at hl 0 rfl) ?_
        refine lv_dup hx hb (dq dt_X9_token 24 rfl) rfl ?_
        refine kGet (ci := 9) C in_X9 hw 0 rfl rfl 14 (by decide) (C.2.2.2.2.2.2.1 _ q4_109) rfl rfl (dq dt_X9_token 25 rfl) ?_
        refine lv_aload_n hx hb (dq dt_X9_token 26 rfl) rfl (lv_at hl 0 rfl) ?_
        refine kGet (ci := 9) C in_X9 hw 0 rfl rfl 14 (by decide) (C.2.2.2.2.2.2.1 _ q4_109) rfl rfl (dq dt_X9_token 27 rfl) ?_
        refine lv_aload_n hx hb (dq dt_X9_token 28 rfl) rfl (lv_at hl 0 rfl) ?_
        refine kGet (ci := 9) C in_X9 hw 0 rfl rfl 3 (by decide) (C.2.2.2.2.2.2.1 _ q4_98) rfl rfl (dq dt_X9_token 29 rfl) ?_
        obtain ⟨K5, hK5, hF⟩ := zj1_ hF
        have J5 : ∀ (y4 : Int32), K5 y4 = some (m_at', m_place', m_end') → ∀ (H : Heap) (locs : List Loc) (ls : Array Slot), kW D A s.heap [(a_m, .inr (9, [.ref a_m_row, .ref a_m_isKept, .ref a_m_text, .int m_length, .ref a_m_read, .int m_readMany, .int m_yards, .ref a_m_tides, .ref a_m_seeps, .int m_seepMany, .ref a_m_kinds, .ref a_m_paces, .ref a_m_ears, .int m_many, .int h1, .int h1, .int m_end, .int m_readYards, .int m_readSeeps, .int m_readChildren, .ref a_m_hearers, .ref a_m_chosen, .int m_chosenMany, .ref a_m_dues, .ref a_m_sights, .int m_seenMany])), (a_m_text, .inl (cI, 200, .inl m_text))] H locs → lv_has ls 1 [(0, .ref a_m)] → W p l e rm_X9_token s m args below meth c H locs 0 0 Q (F0 m 67 ls [.int y4, .int h1, .ref a_m]) := by
          intro y4 hF H locs ls hw hl
          replace hF := hK5 y4 hF
          refine lv_iadd hx hb (dq dt_X9_token 34 rfl) ?_
          obtain ⟨v6, ev6, hF⟩ := bd_ hF
          refine kNmI ev6 ?_
          refine kPut (ci := 9) (ws' := [(a_m, .inr (9, [.ref a_m_row, .ref a_m_isKept, .ref a_m_text, .int m_length, .ref a_m_read, .int m_readMany, .int m_yards, .ref a_m_tides, .ref a_m_seeps, .int m_seepMany, .ref a_m_kinds, .ref a_m_paces, .ref a_m_ears, .int m_many, .int v6, .int h1, .int m_end, .int m_readYards, .int m_readSeeps, .int m_readChildren, .ref a_m_hearers, .ref a_m_chosen, .int m_chosenMany, .ref a_m_dues, .ref a_m_sights, .int m_seenMany])), (a_m_text, .inl (cI, 200, .inl m_text))]) C in_X9 tyX9 tyX9_ok nmX9 hw 0 rfl rfl 14 (by decide) (C.2.2.2.2.2.2.1 _ q4_109) rfl rfl rfl rfl (Nat.le_of_ble_eq_true rfl) rfl (dq dt_X9_token 35 rfl) (fun H locs hw => ?_)
          obtain ⟨K8, hK08, hK8, hF⟩ := zl1_ hF
          have L8 : ∀ (n : Nat) (h7 : Int32), K8 n h7 = some (m_at', m_place', m_end') → ∀ (H : Heap) (locs : List Loc) (ls : Array Slot), kW D A s.heap [(a_m, .inr (9, [.ref a_m_row, .ref a_m_isKept, .ref a_m_text, .int m_length, .ref a_m_read, .int m_readMany, .int m_yards, .ref a_m_tides, .ref a_m_seeps, .int m_seepMany, .ref a_m_kinds, .ref a_m_paces, .ref a_m_ears, .int m_many, .int h7, .int h1, .int m_end, .int m_readYards, .int m_readSeeps, .int m_readChildren, .ref a_m_hearers, .ref a_m_chosen, .int m_chosenMany, .ref a_m_dues, .ref a_m_sights, .int m_seenMany])), (a_m_text, .inl (cI, 200, .inl m_text))] H locs → lv_has ls 1 [(0, .ref a_m)] → W p l e rm_X9_token s m args below meth c H locs 0 0 Q (F0 m 71 ls []) := by
            intro n
            induction n with
            | zero => intro h7 hF; exact (lp_no (hK08 h7) hF).elim
            | succ n ih8 =>
              intro h7 hF H locs ls hw hl
              replace hF := hK8 n h7 hF
              refine lv_aload_n hx hb (dq dt_X9_token 36 rfl) rfl (lv_at hl 0 rfl) ?_
              refine kGet (ci := 9) C in_X9 hw 0 rfl rfl 14 (by decide) (C.2.2.2.2.2.2.1 _ q4_109) rfl rfl (dq dt_X9_token 37 rfl) ?_
              refine lv_aload_n hx hb (dq dt_X9_token 38 rfl) rfl (lv_at hl 0 rfl) ?_
              refine kGet (ci := 9) C in_X9 hw 0 rfl rfl 3 (by decide) (C.2.2.2.2.2.2.1 _ q4_98) rfl rfl (dq dt_X9_token 39 rfl) ?_
              obtain ⟨K9, hK9, hF⟩ := zj0_ hF
              have J9 : K9 = some (m_at', m_place', m_end') → ∀ (H : Heap) (locs : List Loc) (ls : Array Slot), kW D A s.heap [(a_m, .inr (9, [.ref a_m_row, .ref a_m_isKept, .ref a_m_text, .int m_length, .ref a_m_read, .int m_readMany, .int m_yards, .ref a_m_tides, .ref a_m_seeps, .int m_seepMany, .ref a_m_kinds, .ref a_m_paces, .ref a_m_ears, .int m_many, .int h7, .int h1, .int m_end, .int m_readYards, .int m_readSeeps, .int m_readChildren, .ref a_m_hearers, .ref a_m_chosen, .int m_chosenMany, .ref a_m_dues, .ref a_m_sights, .int m_seenMany])), (a_m_text, .inl (cI, 200, .inl m_text))] H locs → lv_has ls 1 [(0, .ref a_m)] → W p l e rm_X9_token s m args below meth c H locs 0 0 Q (F0 m 137 ls []) := by
                intro hF H locs ls hw hl
                replace hF := hK9 hF
                refine lv_aload_n hx hb (dq dt_X9_token 68 rfl) rfl (lv_at hl 0 rfl) ?_
                refine lv_aload_n hx hb (dq dt_X9_token 69 rfl) rfl (lv_at hl 0 rfl) ?_
                refine kGet (ci := 9) C in_X9 hw 0 rfl rfl 14 (by decide) (C.2.2.2.2.2.2.1 _ q4_109) rfl rfl (dq dt_X9_token 70 rfl) ?_
                refine kPut (ci := 9) (ws' := [(a_m, .inr (9, [.ref a_m_row, .ref a_m_isKept, .ref a_m_text, .int m_length, .ref a_m_read, .int m_readMany, .int m_yards, .ref a_m_tides, .ref a_m_seeps, .int m_seepMany, .ref a_m_kinds, .ref a_m_paces, .ref a_m_ears, .int m_many, .int h7, .int h1, .int h7, .int m_readYards, .int m_readSeeps, .int m_readChildren, .ref a_m_hearers, .ref a_m_chosen, .int m_chosenMany, .ref a_m_dues, .ref a_m_sights, .int m_seenMany])), (a_m_text, .inl (cI, 200, .inl m_text))]) C in_X9 tyX9 tyX9_ok nmX9 hw 0 rfl rfl 16 (by decide) (C.2.2.2.2.2.2.1 _ q4_111) rfl rfl rfl rfl (Nat.le_of_ble_eq_true rfl) rfl (dq dt_X9_token 71 rfl) (fun H locs hw => ?_)
                cases hF
                exact kRetV hQ C hw (dq dt_X9_token 72 rfl)
              refine lv_icmp_ge (tgt := 137) hx hb (dq dt_X9_token 40 rfl) (by decide) (fun c10 => ?_) (fun c10 => ?_)
              · replace hF := if_t c10 hF
                exact J9 hF _ _ _ hw (lv_sub hl [0] rfl)
              · replace hF := if_f c10 hF
                refine lv_aload_n hx hb (dq dt_X9_token 41 rfl) rfl (lv_at hl 0 rfl) ?_
                refine kGet (ci := 9) C in_X9 hw 0 rfl rfl 2 (by decide) (C.2.2.2.2.2.2.1 _ q4_97) rfl rfl (dq dt_X9_token 42 rfl) ?_
                refine lv_aload_n hx hb (dq dt_X9_token 43 rfl) rfl (lv_at hl 0 rfl) ?_
                refine kGet (ci := 9) C in_X9 hw 0 rfl rfl 15 (by decide) (C.2.2.2.2.2.2.1 _ q4_110) rfl rfl (dq dt_X9_token 44 rfl) ?_
                obtain ⟨v11, ev11, hi12, hF⟩ := rd_ hF
                refine kIald C hw 1 1 rfl rfl hi12 ev11 (dq dt_X9_token 45 rfl) ?_
                obtain ⟨v13, hr14, hF⟩ := zc1_ hF
                refine kCallSP C hw (A_X9_sort l D cB cI cJ cZ ad v11 v13 hr14) (va_cwS 1 C.2.2.2.2.2.2.1 (w0_S0 q4_198 q4_196 q4_197 q1_10) rfl rfl rfl ke_X9_sort ⟨Nat.le_of_ble_eq_true rfl, Nat.le_of_ble_eq_true rfl⟩) hl.1 rfl rfl rfl (Nat.le_of_ble_eq_true rfl) ⟨Nat.le_of_ble_eq_true rfl, Nat.le_of_ble_eq_true rfl⟩ (dq dt_X9_token 46 rfl) (fun H locs hw => ?_)
                refine lv_if_le (tgt := 137) hx hb (dq dt_X9_token 47 rfl) (by decide) (fun c15 => ?_) (fun c15 => ?_)
                · replace hF := if_t c15 hF
                  exact J9 hF _ _ _ hw (lv_sub hl [0] rfl)
                · replace hF := if_f c15 hF
                  refine lv_aload_n hx hb (dq dt_X9_token 48 rfl) rfl (lv_at hl 0 rfl) ?_
                  refine kGet (ci := 9) C in_X9 hw 0 rfl rfl 2 (by decide) (C.2.2.2.2.2.2.1 _ q4_97) rfl rfl (dq dt_X9_token 49 rfl) ?_
                  refine lv_aload_n hx hb (dq dt_X9_token 50 rfl) rfl (lv_at hl 0 rfl) ?_
                  refine kGet (ci := 9) C in_X9 hw 0 rfl rfl 14 (by decide) (C.2.2.2.2.2.2.1 _ q4_109) rfl rfl (dq dt_X9_token 51 rfl) ?_
                  obtain ⟨v16, ev16, hi17, hF⟩ := rd_ hF
                  refine kIald C hw 1 1 rfl rfl hi17 ev16 (dq dt_X9_token 52 rfl) ?_
                  obtain ⟨v18, hr19, hF⟩ := zc1_ hF
                  refine kCallSP C hw (A_X9_sort l D cB cI cJ cZ ad v16 v18 hr19) (va_cwS 1 C.2.2.2.2.2.2.1 (w0_S0 q4_198 q4_196 q4_197 q1_10) rfl rfl rfl ke_X9_sort ⟨Nat.le_of_ble_eq_true rfl, Nat.le_of_ble_eq_true rfl⟩) hl.1 rfl rfl rfl (Nat.le_of_ble_eq_true rfl) ⟨Nat.le_of_ble_eq_true rfl, Nat.le_of_ble_eq_true rfl⟩ (dq dt_X9_token 53 rfl) (fun H locs hw => ?_)
                  refine lv_aload_n hx hb (dq dt_X9_token 54 rfl) rfl (lv_at hl 0 rfl) ?_
                  refine kGet (ci := 9) C in_X9 hw 0 rfl rfl 2 (by decide) (C.2.2.2.2.2.2.1 _ q4_97) rfl rfl (dq dt_X9_token 55 rfl) ?_
                  refine lv_aload_n hx hb (dq dt_X9_token 56 rfl) rfl (lv_at hl 0 rfl) ?_
                  refine kGet (ci := 9) C in_X9 hw 0 rfl rfl 15 (by decide) (C.2.2.2.2.2.2.1 _ q4_110) rfl rfl (dq dt_X9_token 57 rfl) ?_
                  obtain ⟨v20, ev20, hi21, hF⟩ := rd_ hF
                  refine kIald C hw 1 1 rfl rfl hi21 ev20 (dq dt_X9_token 58 rfl) ?_
                  obtain ⟨v22, hr23, hF⟩ := zc1_ hF
                  refine kCallSP C hw (A_X9_sort l D cB cI cJ cZ ad v20 v22 hr23) (va_cwS 1 C.2.2.2.2.2.2.1 (w0_S0 q4_198 q4_196 q4_197 q1_10) rfl rfl rfl ke_X9_sort ⟨Nat.le_of_ble_eq_true rfl, Nat.le_of_ble_eq_true rfl⟩) hl.1 rfl rfl rfl (Nat.le_of_ble_eq_true rfl) ⟨Nat.le_of_ble_eq_true rfl, Nat.le_of_ble_eq_true rfl⟩ (dq dt_X9_token 59 rfl) (fun H locs hw => ?_)
                  refine lv_icmp_ne (tgt := 137) hx hb (dq dt_X9_token 60 rfl) (by decide) (fun c24 => ?_) (fun c24 => ?_)
                  · replace hF := if_f c24 hF
                    exact J9 hF _ _ _ hw (lv_sub hl [0] rfl)
                  · replace hF := if_t c24 hF
                    refine lv_aload_n hx hb (dq dt_X9_token 61 rfl) rfl (lv_at hl 0 rfl) ?_
                    refine lv_dup hx hb (dq dt_X9_token 62 rfl) rfl ?_
                    refine kGet (ci := 9) C in_X9 hw 0 rfl rfl 14 (by decide) (C.2.2.2.2.2.2.1 _ q4_109) rfl rfl (dq dt_X9_token 63 rfl) ?_
                    refine lv_iconst (v := (1 : Int32)) hx hb (dq dt_X9_token 64 rfl) (by decide) ?_
                    refine lv_iadd hx hb (dq dt_X9_token 65 rfl) ?_
                    obtain ⟨v25, ev25, hF⟩ := bd_ hF
                    refine kNmI ev25 ?_
                    refine kPut (ci := 9) (ws' := [(a_m, .inr (9, [.ref a_m_row, .ref a_m_isKept, .ref a_m_text, .int m_length, .ref a_m_read, .int m_readMany, .int m_yards, .ref a_m_tides, .ref a_m_seeps, .int m_seepMany, .ref a_m_kinds, .ref a_m_paces, .ref a_m_ears, .int m_many, .int v25, .int h1, .int m_end, .int m_readYards, .int m_readSeeps, .int m_readChildren, .ref a_m_hearers, .ref a_m_chosen, .int m_chosenMany, .ref a_m_dues, .ref a_m_sights, .int m_seenMany])), (a_m_text, .inl (cI, 200, .inl m_text))]) C in_X9 tyX9 tyX9_ok nmX9 hw 0 rfl rfl 14 (by decide) (C.2.2.2.2.2.2.1 _ q4_109) rfl rfl rfl rfl (Nat.le_of_ble_eq_true rfl) rfl (dq dt_X9_token 66 rfl) (fun H locs hw => ?_)
                    refine lv_goto (tgt := 71) hx hb (dq dt_X9_token 67 rfl) (by decide) ?_
                    exact ih8 v25 hF _ _ _ hw (lv_sub hl [0] rfl)
          exact L8 _ v6 hF _ _ _ hw (lv_sub hl [0] rfl)
        refine lv_icmp_ge (tgt := 66) hx hb (dq dt_X9_token 30 rfl) (by decide) (fun c26 => ?_) (fun c26 => ?_)
        · replace hF := if_t c26 hF
          refine lv_iconst (v := (0 : Int32)) hx hb (dq dt_X9_token 33 rfl) (by decide) ?_
          exact J5 (0 : Int32) hF _ _ _ hw (lv_sub hl [0] rfl)
        · replace hF := if_f c26 hF
          refine lv_iconst (v := (1 : Int32)) hx hb (dq dt_X9_token 31 rfl) (by decide) ?_
          refine lv_goto (tgt := 67) hx hb (dq dt_X9_token 32 rfl) (by decide) ?_
          exact J5 (1 : Int32) hF _ _ _ hw (lv_sub hl [0] rfl)
      refine lv_icmp_ge (tgt := 38) hx hb (dq dt_X9_token 4 rfl) (by decide) (fun c27 => ?_) (fun c27 => ?_)
      · replace hF := if_t c27 hF
        exact J3 hF _ _ _ hw (lv_sub hl [0] rfl)
      · replace hF := if_f c27 hF
        refine lv_aload_n hx hb (dq dt_X9_token 5 rfl) rfl (lv_at hl 0 rfl) ?_
        refine kGet (ci := 9) C in_X9 hw 0 rfl rfl 2 (by decide) (C.2.2.2.2.2.2.1 _ q4_97) rfl rfl (dq dt_X9_token 6 rfl) ?_
        refine lv_aload_n hx hb (dq dt_X9_token 7 rfl) rfl (lv_at hl 0 rfl) ?_
        refine kGet (ci := 9) C in_X9 hw 0 rfl rfl 14 (by decide) (C.2.2.2.2.2.2.1 _ q4_109) rfl rfl (dq dt_X9_token 8 rfl) ?_
        obtain ⟨v28, ev28, hi29, hF⟩ := rd_ hF
        refine kIald C hw 1 1 rfl rfl hi29 ev28 (dq dt_X9_token 9 rfl) ?_
        refine lv_bipush (v := (32 : Int32)) hx hb (dq dt_X9_token 10 rfl) (by decide) ?_
        refine lv_icmp_ne (tgt := 38) hx hb (dq dt_X9_token 11 rfl) (by decide) (fun c30 => ?_) (fun c30 => ?_)
        · replace hF := if_f c30 hF
          exact J3 hF _ _ _ hw (lv_sub hl [0] rfl)
        · replace hF := if_t c30 hF
          refine lv_aload_n hx hb (dq dt_X9_token 12 rfl) rfl (lv_at hl 0 rfl) ?_
          refine lv_dup hx hb (dq dt_X9_token 13 rfl) rfl ?_
          refine kGet (ci := 9) C in_X9 hw 0 rfl rfl 14 (by decide) (C.2.2.2.2.2.2.1 _ q4_109) rfl rfl (dq dt_X9_token 14 rfl) ?_
          refine lv_iconst (v := (1 : Int32)) hx hb (dq dt_X9_token 15 rfl) (by decide) ?_
          refine lv_iadd hx hb (dq dt_X9_token 16 rfl) ?_
          obtain ⟨v31, ev31, hF⟩ := bd_ hF
          refine kNmI ev31 ?_
          refine kPut (ci := 9) (ws' := [(a_m, .inr (9, [.ref a_m_row, .ref a_m_isKept, .ref a_m_text, .int m_length, .ref a_m_read, .int m_readMany, .int m_yards, .ref a_m_tides, .ref a_m_seeps, .int m_seepMany, .ref a_m_kinds, .ref a_m_paces, .ref a_m_ears, .int m_many, .int v31, .int m_place, .int m_end, .int m_readYards, .int m_readSeeps, .int m_readChildren, .ref a_m_hearers, .ref a_m_chosen, .int m_chosenMany, .ref a_m_dues, .ref a_m_sights, .int m_seenMany])), (a_m_text, .inl (cI, 200, .inl m_text))]) C in_X9 tyX9 tyX9_ok nmX9 hw 0 rfl rfl 14 (by decide) (C.2.2.2.2.2.2.1 _ q4_109) rfl rfl rfl rfl (Nat.le_of_ble_eq_true rfl) rfl (dq dt_X9_token 17 rfl) (fun H locs hw => ?_)
          refine lv_goto (tgt := 0) hx hb (dq dt_X9_token 18 rfl) (by decide) ?_
          exact ih2 v31 hF _ _ _ hw (lv_sub hl [0] rfl)
  exact L2 _ m_at hF _ _ _ hw (lv_sub hl [0] rfl)
def F_X9_isWord (m_place : Int32) (m_end : Int32) (m_text : Nat → Int32) (p1 : Int32) (p2 : Int32) : Option (Int32) :=
  zj1 (fun y1 => zl2 (fun x3 x4 ag5 => if x3 = 0 then (ckZ x3 (some x3)) else (if p2 ≤ x4 then (ckZ x3 (some x3)) else (rd 200 m_text (m_place + x4) (fun v8 => if v8 = ((96 : Int32) + ((p1 >>> (((5 : Int32) * x4) &&& 31)) &&& (31 : Int32))) then (bd (x4 + (1 : Int32)) (fun v12 => ag5 (1 : Int32) v12)) else (bd (x4 + (1 : Int32)) (fun v11 => ag5 (0 : Int32) v11)))))) FU y1 (0 : Int32)) (fun K2 => if (m_end - m_place) = p2 then (K2 (1 : Int32)) else (K2 (0 : Int32)))
abbrev rm_X9_isWord : Room := { frames := 0, cells := 0, slots := 0, locals := 0 }
theorem kd_X9_isWord : yX9_isWord.cls = RX9 ∧ yX9_isWord.cls ≠ "java/lang/invoke/MethodHandle" ∧ yX9_isWord.cls ≠ "java/lang/invoke/VarHandle" ∧ (parseMethodDescriptor yX9_isWord.desc).map (fun d => d.parameters.length) = some 2 := by decide +kernel
set_option maxRecDepth 100000 in
set_option maxHeartbeats 4000000 in
theorem A_X9_isWord (l : Launch) (D : va_G) (cB cI cJ cZ : ClassId) (ad : (Nat → Nat) × (Nat → Nat)) (a_m a_m_row a_m_isKept a_m_text a_m_read a_m_tides a_m_seeps a_m_kinds a_m_paces a_m_ears a_m_hearers a_m_chosen a_m_dues a_m_sights : Nat) (m_length : Int32) (m_readMany : Int32) (m_yards : Int32) (m_seepMany : Int32) (m_many : Int32) (m_at : Int32) (m_place : Int32) (m_end : Int32) (m_readYards : Int32) (m_readSeeps : Int32) (m_readChildren : Int32) (m_chosenMany : Int32) (m_seenMany : Int32) (m_text : Nat → Int32) (p1 : Int32) (p2 : Int32) (r : Int32) (hF : F_X9_isWord m_place m_end m_text p1 p2 = some r) : kM l yX9_isWord (Cond.code yX9_isWord cX9_isWord 5 (some .boolean) :: W0) rm_X9_isWord D (kT cB cI cJ cZ) ad [.ref a_m, .int p1, .int p2] [(a_m, .inr (9, [.ref a_m_row, .ref a_m_isKept, .ref a_m_text, .int m_length, .ref a_m_read, .int m_readMany, .int m_yards, .ref a_m_tides, .ref a_m_seeps, .int m_seepMany, .ref a_m_kinds, .ref a_m_paces, .ref a_m_ears, .int m_many, .int m_at, .int m_place, .int m_end, .int m_readYards, .int m_readSeeps, .int m_readChildren, .ref a_m_hearers, .ref a_m_chosen, .int m_chosenMany, .ref a_m_dues, .ref a_m_sights, .int m_seenMany])), (a_m_text, .inl (cI, 200, .inl m_text))] (some (.int r)) [(a_m, .inr (9, [.ref a_m_row, .ref a_m_isKept, .ref a_m_text, .int m_length, .ref a_m_read, .int m_readMany, .int m_yards, .ref a_m_tides, .ref a_m_seeps, .int m_seepMany, .ref a_m_kinds, .ref a_m_paces, .ref a_m_ears, .int m_many, .int m_at, .int m_place, .int m_end, .int m_readYards, .int m_readSeeps, .int m_readChildren, .ref a_m_hearers, .ref a_m_chosen, .int m_chosenMany, .ref a_m_dues, .ref a_m_sights, .int m_seenMany])), (a_m_text, .inl (cI, 200, .inl m_text))] := by
  unfold F_X9_isWord at hF
  refine kStart (lv := [(0, .ref a_m), (1, .int p1), (2, .int p2)]) (own := "DikeWatchModel") (plainFor_of_name (by decide)) rfl (Nat.le_of_ble_eq_true rfl) rfl ?_
  intro p e s m args below meth c A Q ls hQ C hx hb hw hl
  refine lv_aload_n hx hb (dq dt_X9_isWord 0 rfl) rfl (lv_at hl 0 rfl) ?_
  refine kGet (ci := 9) C in_X9 hw 0 rfl rfl 16 (by decide) (C.2.2.2.2.2.2.1 _ q4_111) rfl rfl (dq dt_X9_isWord 1 rfl) ?_
  refine lv_aload_n hx hb (dq dt_X9_isWord 2 rfl) rfl (lv_at hl 0 rfl) ?_
  refine kGet (ci := 9) C in_X9 hw 0 rfl rfl 15 (by decide) (C.2.2.2.2.2.2.1 _ q4_110) rfl rfl (dq dt_X9_isWord 3 rfl) ?_
  refine lv_isub hx hb (dq dt_X9_isWord 4 rfl) ?_
  refine lv_iload_n hx hb (dq dt_X9_isWord 5 rfl) rfl (lv_at hl 2 rfl) ?_
  obtain ⟨K2, hK2, hF⟩ := zj1_ hF
  have J2 : ∀ (y1 : Int32), K2 y1 = some r → ∀ (H : Heap) (locs : List Loc) (ls : Array Slot), kW D A s.heap [(a_m, .inr (9, [.ref a_m_row, .ref a_m_isKept, .ref a_m_text, .int m_length, .ref a_m_read, .int m_readMany, .int m_yards, .ref a_m_tides, .ref a_m_seeps, .int m_seepMany, .ref a_m_kinds, .ref a_m_paces, .ref a_m_ears, .int m_many, .int m_at, .int m_place, .int m_end, .int m_readYards, .int m_readSeeps, .int m_readChildren, .ref a_m_hearers, .ref a_m_chosen, .int m_chosenMany, .ref a_m_dues, .ref a_m_sights, .int m_seenMany])), (a_m_text, .inl (cI, 200, .inl m_text))] H locs → lv_has ls 5 [(0, .ref a_m), (1, .int p1), (2, .int p2)] → W p l e rm_X9_isWord s m args below meth c H locs 0 0 Q (F0 m 18 ls [.int y1]) := by
    intro y1 hF H locs ls hw hl
    replace hF := hK2 y1 hF
    refine lv_istore_n (lv' := [(3, .int y1), (0, .ref a_m), (1, .int p1), (2, .int p2)]) hx hb (dq dt_X9_isWord 10 rfl) rfl hl (by decide) rfl (fun ls hl => ?_)
    refine lv_iconst (v := (0 : Int32)) hx hb (dq dt_X9_isWord 11 rfl) (by decide) ?_
    refine lv_istore (lv' := [(4, .int (0 : Int32)), (3, .int y1), (0, .ref a_m), (1, .int p1), (2, .int p2)]) hx hb (dq dt_X9_isWord 12 rfl) hl (by decide) rfl (fun ls hl => ?_)
    obtain ⟨K5, hK05, hK5, hF⟩ := zl2_ hF
    have L5 : ∀ (n : Nat) (x3 : Int32) (x4 : Int32), K5 n x3 x4 = some r → ∀ (H : Heap) (locs : List Loc) (ls : Array Slot), kW D A s.heap [(a_m, .inr (9, [.ref a_m_row, .ref a_m_isKept, .ref a_m_text, .int m_length, .ref a_m_read, .int m_readMany, .int m_yards, .ref a_m_tides, .ref a_m_seeps, .int m_seepMany, .ref a_m_kinds, .ref a_m_paces, .ref a_m_ears, .int m_many, .int m_at, .int m_place, .int m_end, .int m_readYards, .int m_readSeeps, .int m_readChildren, .ref a_m_hearers, .ref a_m_chosen, .int m_chosenMany, .ref a_m_dues, .ref a_m_sights, .int m_seenMany])), (a_m_text, .inl (cI, 200, .inl m_text))] H locs → lv_has ls 5 [(0, .ref a_m), (1, .int p1), (2, .int p2), (3, .int x3), (4, .int x4)] → W p l e rm_X9_isWord s m args below meth c H locs 0 0 Q (F0 m 22 ls []) := by
      intro n
      induction n with
      | zero => intro x3 x4 hF; exact (lp_no (hK05 x3 x4) hF).elim
      | succ n ih5 =>
        intro x3 x4 hF H locs ls hw hl
        replace hF := hK5 n x3 x4 hF
        refine lv_iload_n hx hb (dq dt_X9_isWord 13 rfl) rfl (lv_at hl 3 rfl) ?_
        refine lv_if_eq (tgt := 71) hx hb (dq dt_X9_isWord 14 rfl) (by decide) (fun c6 => ?_) (fun c6 => ?_)
        · replace hF := if_t c6 hF
          refine lv_iload_n hx hb (dq dt_X9_isWord 41 rfl) rfl (lv_at hl 3 rfl) ?_
          obtain ⟨hn, hF⟩ := ckZ_ hF
          cases hF
          exact kRetZ hQ C hn hw (dq dt_X9_isWord 42 rfl)
        · replace hF := if_f c6 hF
          refine lv_iload hx hb (dq dt_X9_isWord 15 rfl) (lv_at hl 4 rfl) ?_
          refine lv_iload_n hx hb (dq dt_X9_isWord 16 rfl) rfl (lv_at hl 2 rfl) ?_
          refine lv_icmp_ge (tgt := 71) hx hb (dq dt_X9_isWord 17 rfl) (by decide) (fun c7 => ?_) (fun c7 => ?_)
          · replace hF := if_t c7 hF
            refine lv_iload_n hx hb (dq dt_X9_isWord 41 rfl) rfl (lv_at hl 3 rfl) ?_
            obtain ⟨hn, hF⟩ := ckZ_ hF
            cases hF
            exact kRetZ hQ C hn hw (dq dt_X9_isWord 42 rfl)
          · replace hF := if_f c7 hF
            refine lv_aload_n hx hb (dq dt_X9_isWord 18 rfl) rfl (lv_at hl 0 rfl) ?_
            refine kGet (ci := 9) C in_X9 hw 0 rfl rfl 2 (by decide) (C.2.2.2.2.2.2.1 _ q4_97) rfl rfl (dq dt_X9_isWord 19 rfl) ?_
            refine lv_aload_n hx hb (dq dt_X9_isWord 20 rfl) rfl (lv_at hl 0 rfl) ?_
            refine kGet (ci := 9) C in_X9 hw 0 rfl rfl 15 (by decide) (C.2.2.2.2.2.2.1 _ q4_110) rfl rfl (dq dt_X9_isWord 21 rfl) ?_
            refine lv_iload hx hb (dq dt_X9_isWord 22 rfl) (lv_at hl 4 rfl) ?_
            refine lv_iadd hx hb (dq dt_X9_isWord 23 rfl) ?_
            obtain ⟨v8, ev8, hi9, hF⟩ := rd_ hF
            refine kIald C hw 1 1 rfl rfl hi9 ev8 (dq dt_X9_isWord 24 rfl) ?_
            refine lv_bipush (v := (96 : Int32)) hx hb (dq dt_X9_isWord 25 rfl) (by decide) ?_
            refine lv_iload_n hx hb (dq dt_X9_isWord 26 rfl) rfl (lv_at hl 1 rfl) ?_
            refine lv_iconst (v := (5 : Int32)) hx hb (dq dt_X9_isWord 27 rfl) (by decide) ?_
            refine lv_iload hx hb (dq dt_X9_isWord 28 rfl) (lv_at hl 4 rfl) ?_
            refine lv_imul hx hb (dq dt_X9_isWord 29 rfl) ?_
            refine lv_ishr hx hb (dq dt_X9_isWord 30 rfl) ?_
            refine lv_bipush (v := (31 : Int32)) hx hb (dq dt_X9_isWord 31 rfl) (by decide) ?_
            refine lv_iand hx hb (dq dt_X9_isWord 32 rfl) ?_
            refine lv_iadd hx hb (dq dt_X9_isWord 33 rfl) ?_
            refine lv_icmp_ne (tgt := 63) hx hb (dq dt_X9_isWord 34 rfl) (by decide) (fun c10 => ?_) (fun c10 => ?_)
            · replace hF := if_f c10 hF
              refine lv_iconst (v := (0 : Int32)) hx hb (dq dt_X9_isWord 37 rfl) (by decide) ?_
              refine lv_istore_n (lv' := [(3, .int (0 : Int32)), (0, .ref a_m), (1, .int p1), (2, .int p2), (4, .int x4)]) hx hb (dq dt_X9_isWord 38 rfl) rfl hl (by decide) rfl (fun ls hl => ?_)
              obtain ⟨v11, ev11, hF⟩ := bd_ hF
              refine lv_iinc (v := v11) (lv' := [(4, .int v11), (3, .int (0 : Int32)), (0, .ref a_m), (1, .int p1), (2, .int p2)]) hx hb (dq dt_X9_isWord 39 rfl) hl (k := 4) rfl ev11.symm (by decide) rfl (fun ls hl => ?_)
              refine lv_goto (tgt := 22) hx hb (dq dt_X9_isWord 40 rfl) (by decide) ?_
              exact ih5 (0 : Int32) v11 hF _ _ _ hw (lv_sub hl [2, 3, 4, 1, 0] rfl)
            · replace hF := if_t c10 hF
              refine lv_iconst (v := (1 : Int32)) hx hb (dq dt_X9_isWord 35 rfl) (by decide) ?_
              refine lv_goto (tgt := 64) hx hb (dq dt_X9_isWord 36 rfl) (by decide) ?_
              refine lv_istore_n (lv' := [(3, .int (1 : Int32)), (0, .ref a_m), (1, .int p1), (2, .int p2), (4, .int x4)]) hx hb (dq dt_X9_isWord 38 rfl) rfl hl (by decide) rfl (fun ls hl => ?_)
              obtain ⟨v12, ev12, hF⟩ := bd_ hF
              refine lv_iinc (v := v12) (lv' := [(4, .int v12), (3, .int (1 : Int32)), (0, .ref a_m), (1, .int p1), (2, .int p2)]) hx hb (dq dt_X9_isWord 39 rfl) hl (k := 4) rfl ev12.symm (by decide) rfl (fun ls hl => ?_)
              refine lv_goto (tgt := 22) hx hb (dq dt_X9_isWord 40 rfl) (by decide) ?_
              exact ih5 (1 : Int32) v12 hF _ _ _ hw (lv_sub hl [2, 3, 4, 1, 0] rfl)
    exact L5 _ y1 (0 : Int32) hF _ _ _ hw (lv_sub hl [2, 3, 4, 1, 0] rfl)
  refine lv_icmp_ne (tgt := 17) hx hb (dq dt_X9_isWord 6 rfl) (by decide) (fun c13 => ?_) (fun c13 => ?_)
  · replace hF := if_f c13 hF
    refine lv_iconst (v := (0 : Int32)) hx hb (dq dt_X9_isWord 9 rfl) (by decide) ?_
    exact J2 (0 : Int32) hF _ _ _ hw (lv_sub hl [0, 1, 2] rfl)
  · replace hF := if_t c13 hF
    refine lv_iconst (v := (1 : Int32)) hx hb (dq dt_X9_isWord 7 rfl) (by decide) ?_
    refine lv_goto (tgt := 18) hx hb (dq dt_X9_isWord 8 rfl) (by decide) ?_
    exact J2 (1 : Int32) hF _ _ _ hw (lv_sub hl [0, 1, 2] rfl)
def F_X9_childWord (m_place : Int32) (m_end : Int32) (m_text : Nat → Int32) : Option (Int32) :=
  zc1 (F_X9_isWord m_place m_end m_text (14976400 : Int32) (5 : Int32)) (fun v1 => if v1 = 0 then (zc1 (F_X9_isWord m_place m_end m_text (4376884 : Int32) (5 : Int32)) (fun v4 => if v4 = 0 then (zc1 (F_X9_isWord m_place m_end m_text (787944 : Int32) (4 : Int32)) (fun v7 => if v7 = 0 then (zc1 (F_X9_isWord m_place m_end m_text (197796 : Int32) (4 : Int32)) (fun v10 => if v10 = 0 then (some (-1 : Int32)) else (some (6 : Int32)))) else (some (5 : Int32)))) else (some (4 : Int32)))) else (some (3 : Int32)))
abbrev rm_X9_childWord : Room := { frames := 1, cells := 0, slots := 0, locals := 24 }
theorem kd_X9_childWord : yX9_childWord.cls = RX9 ∧ yX9_childWord.cls ≠ "java/lang/invoke/MethodHandle" ∧ yX9_childWord.cls ≠ "java/lang/invoke/VarHandle" ∧ (parseMethodDescriptor yX9_childWord.desc).map (fun d => d.parameters.length) = some 0 := by decide +kernel
set_option maxRecDepth 100000 in
set_option maxHeartbeats 4000000 in
theorem A_X9_childWord (l : Launch) (D : va_G) (cB cI cJ cZ : ClassId) (ad : (Nat → Nat) × (Nat → Nat)) (a_m a_m_row a_m_isKept a_m_text a_m_read a_m_tides a_m_seeps a_m_kinds a_m_paces a_m_ears a_m_hearers a_m_chosen a_m_dues a_m_sights : Nat) (m_length : Int32) (m_readMany : Int32) (m_yards : Int32) (m_seepMany : Int32) (m_many : Int32) (m_at : Int32) (m_place : Int32) (m_end : Int32) (m_readYards : Int32) (m_readSeeps : Int32) (m_readChildren : Int32) (m_chosenMany : Int32) (m_seenMany : Int32) (m_text : Nat → Int32) (r : Int32) (hF : F_X9_childWord m_place m_end m_text = some r) : kM l yX9_childWord (Cond.code yX9_childWord cX9_childWord 1 (some .int) :: W0) rm_X9_childWord D (kT cB cI cJ cZ) ad [.ref a_m] [(a_m, .inr (9, [.ref a_m_row, .ref a_m_isKept, .ref a_m_text, .int m_length, .ref a_m_read, .int m_readMany, .int m_yards, .ref a_m_tides, .ref a_m_seeps, .int m_seepMany, .ref a_m_kinds, .ref a_m_paces, .ref a_m_ears, .int m_many, .int m_at, .int m_place, .int m_end, .int m_readYards, .int m_readSeeps, .int m_readChildren, .ref a_m_hearers, .ref a_m_chosen, .int m_chosenMany, .ref a_m_dues, .ref a_m_sights, .int m_seenMany])), (a_m_text, .inl (cI, 200, .inl m_text))] (some (.int r)) [(a_m, .inr (9, [.ref a_m_row, .ref a_m_isKept, .ref a_m_text, .int m_length, .ref a_m_read, .int m_readMany, .int m_yards, .ref a_m_tides, .ref a_m_seeps, .int m_seepMany, .ref a_m_kinds, .ref a_m_paces, .ref a_m_ears, .int m_many, .int m_at, .int m_place, .int m_end, .int m_readYards, .int m_readSeeps, .int m_readChildren, .ref a_m_hearers, .ref a_m_chosen, .int m_chosenMany, .ref a_m_dues, .ref a_m_sights, .int m_seenMany])), (a_m_text, .inl (cI, 200, .inl m_text))] := by
  unfold F_X9_childWord at hF
  refine kStart (lv := [(0, .ref a_m)]) (own := "DikeWatchModel") (plainFor_of_name (by decide)) rfl (Nat.le_of_ble_eq_true rfl) rfl ?_
  intro p e s m args below meth c A Q ls hQ C hx hb hw hl
  refine lv_aload_n hx hb (dq dt_X9_childWord 0 rfl) rfl (lv_at hl 0 rfl) ?_
  refine lv_ldc (v := (14976400 : Int32)) hx hb C.2.2.2.2.2.1 (C.2.2.2.2.2.2.1 _ q4_211) (dq dt_X9_childWord 1 rfl) ?_
  refine lv_iconst (v := (5 : Int32)) hx hb (dq dt_X9_childWord 2 rfl) (by decide) ?_
  obtain ⟨v1, hr2, hF⟩ := zc1_ hF
  refine kCallVR C hw (A_X9_isWord l D cB cI cJ cZ ad a_m a_m_row a_m_isKept a_m_text a_m_read a_m_tides a_m_seeps a_m_kinds a_m_paces a_m_ears a_m_hearers a_m_chosen a_m_dues a_m_sights m_length m_readMany m_yards m_seepMany m_many m_at m_place m_end m_readYards m_readSeeps m_readChildren m_chosenMany m_seenMany m_text (14976400 : Int32) (5 : Int32) v1 hr2) (cwV 2 C.2.2.2.2.2.2.1 (w0_V0 q4_215 q4_212 q4_214 (ws0 26 rfl) q1_10) rfl rfl rfl kd_X9_isWord ⟨Nat.le_of_ble_eq_true rfl, Nat.le_of_ble_eq_true rfl⟩) [0, 1] rfl rfl 0 9 rfl rfl hl.1 rfl rfl rfl (Nat.le_of_ble_eq_true rfl) ⟨Nat.le_of_ble_eq_true rfl, Nat.le_of_ble_eq_true rfl⟩ (dq dt_X9_childWord 3 rfl) (fun H locs hw => ?_)
  refine lv_if_eq (tgt := 14) hx hb (dq dt_X9_childWord 4 rfl) (by decide) (fun c3 => ?_) (fun c3 => ?_)
  · replace hF := if_t c3 hF
    refine lv_aload_n hx hb (dq dt_X9_childWord 7 rfl) rfl (lv_at hl 0 rfl) ?_
    refine lv_ldc (v := (4376884 : Int32)) hx hb C.2.2.2.2.2.1 (C.2.2.2.2.2.2.1 _ q4_216) (dq dt_X9_childWord 8 rfl) ?_
    refine lv_iconst (v := (5 : Int32)) hx hb (dq dt_X9_childWord 9 rfl) (by decide) ?_
    obtain ⟨v4, hr5, hF⟩ := zc1_ hF
    refine kCallVR C hw (A_X9_isWord l D cB cI cJ cZ ad a_m a_m_row a_m_isKept a_m_text a_m_read a_m_tides a_m_seeps a_m_kinds a_m_paces a_m_ears a_m_hearers a_m_chosen a_m_dues a_m_sights m_length m_readMany m_yards m_seepMany m_many m_at m_place m_end m_readYards m_readSeeps m_readChildren m_chosenMany m_seenMany m_text (4376884 : Int32) (5 : Int32) v4 hr5) (cwV 2 C.2.2.2.2.2.2.1 (w0_V0 q4_215 q4_212 q4_214 (ws0 26 rfl) q1_10) rfl rfl rfl kd_X9_isWord ⟨Nat.le_of_ble_eq_true rfl, Nat.le_of_ble_eq_true rfl⟩) [0, 1] rfl rfl 0 9 rfl rfl hl.1 rfl rfl rfl (Nat.le_of_ble_eq_true rfl) ⟨Nat.le_of_ble_eq_true rfl, Nat.le_of_ble_eq_true rfl⟩ (dq dt_X9_childWord 10 rfl) (fun H locs hw => ?_)
    refine lv_if_eq (tgt := 28) hx hb (dq dt_X9_childWord 11 rfl) (by decide) (fun c6 => ?_) (fun c6 => ?_)
    · replace hF := if_t c6 hF
      refine lv_aload_n hx hb (dq dt_X9_childWord 14 rfl) rfl (lv_at hl 0 rfl) ?_
      refine lv_ldc (v := (787944 : Int32)) hx hb C.2.2.2.2.2.1 (C.2.2.2.2.2.2.1 _ q4_217) (dq dt_X9_childWord 15 rfl) ?_
      refine lv_iconst (v := (4 : Int32)) hx hb (dq dt_X9_childWord 16 rfl) (by decide) ?_
      obtain ⟨v7, hr8, hF⟩ := zc1_ hF
      refine kCallVR C hw (A_X9_isWord l D cB cI cJ cZ ad a_m a_m_row a_m_isKept a_m_text a_m_read a_m_tides a_m_seeps a_m_kinds a_m_paces a_m_ears a_m_hearers a_m_chosen a_m_dues a_m_sights m_length m_readMany m_yards m_seepMany m_many m_at m_place m_end m_readYards m_readSeeps m_readChildren m_chosenMany m_seenMany m_text (787944 : Int32) (4 : Int32) v7 hr8) (cwV 2 C.2.2.2.2.2.2.1 (w0_V0 q4_215 q4_212 q4_214 (ws0 26 rfl) q1_10) rfl rfl rfl kd_X9_isWord ⟨Nat.le_of_ble_eq_true rfl, Nat.le_of_ble_eq_true rfl⟩) [0, 1] rfl rfl 0 9 rfl rfl hl.1 rfl rfl rfl (Nat.le_of_ble_eq_true rfl) ⟨Nat.le_of_ble_eq_true rfl, Nat.le_of_ble_eq_true rfl⟩ (dq dt_X9_childWord 17 rfl) (fun H locs hw => ?_)
      refine lv_if_eq (tgt := 42) hx hb (dq dt_X9_childWord 18 rfl) (by decide) (fun c9 => ?_) (fun c9 => ?_)
      · replace hF := if_t c9 hF
        refine lv_aload_n hx hb (dq dt_X9_childWord 21 rfl) rfl (lv_at hl 0 rfl) ?_
        refine lv_ldc (v := (197796 : Int32)) hx hb C.2.2.2.2.2.1 (C.2.2.2.2.2.2.1 _ q4_218) (dq dt_X9_childWord 22 rfl) ?_
        refine lv_iconst (v := (4 : Int32)) hx hb (dq dt_X9_childWord 23 rfl) (by decide) ?_
        obtain ⟨v10, hr11, hF⟩ := zc1_ hF
        refine kCallVR C hw (A_X9_isWord l D cB cI cJ cZ ad a_m a_m_row a_m_isKept a_m_text a_m_read a_m_tides a_m_seeps a_m_kinds a_m_paces a_m_ears a_m_hearers a_m_chosen a_m_dues a_m_sights m_length m_readMany m_yards m_seepMany m_many m_at m_place m_end m_readYards m_readSeeps m_readChildren m_chosenMany m_seenMany m_text (197796 : Int32) (4 : Int32) v10 hr11) (cwV 2 C.2.2.2.2.2.2.1 (w0_V0 q4_215 q4_212 q4_214 (ws0 26 rfl) q1_10) rfl rfl rfl kd_X9_isWord ⟨Nat.le_of_ble_eq_true rfl, Nat.le_of_ble_eq_true rfl⟩) [0, 1] rfl rfl 0 9 rfl rfl hl.1 rfl rfl rfl (Nat.le_of_ble_eq_true rfl) ⟨Nat.le_of_ble_eq_true rfl, Nat.le_of_ble_eq_true rfl⟩ (dq dt_X9_childWord 24 rfl) (fun H locs hw => ?_)
        refine lv_if_eq (tgt := 57) hx hb (dq dt_X9_childWord 25 rfl) (by decide) (fun c12 => ?_) (fun c12 => ?_)
        · replace hF := if_t c12 hF
          refine lv_iconst (v := (-1 : Int32)) hx hb (dq dt_X9_childWord 28 rfl) (by decide) ?_
          cases hF
          exact kRetI hQ C hw (dq dt_X9_childWord 29 rfl)
        · replace hF := if_f c12 hF
          refine lv_bipush (v := (6 : Int32)) hx hb (dq dt_X9_childWord 26 rfl) (by decide) ?_
          refine lv_goto (tgt := 58) hx hb (dq dt_X9_childWord 27 rfl) (by decide) ?_
          cases hF
          exact kRetI hQ C hw (dq dt_X9_childWord 29 rfl)
      · replace hF := if_f c9 hF
        refine lv_iconst (v := (5 : Int32)) hx hb (dq dt_X9_childWord 19 rfl) (by decide) ?_
        refine lv_goto (tgt := 58) hx hb (dq dt_X9_childWord 20 rfl) (by decide) ?_
        cases hF
        exact kRetI hQ C hw (dq dt_X9_childWord 29 rfl)
    · replace hF := if_f c6 hF
      refine lv_iconst (v := (4 : Int32)) hx hb (dq dt_X9_childWord 12 rfl) (by decide) ?_
      refine lv_goto (tgt := 58) hx hb (dq dt_X9_childWord 13 rfl) (by decide) ?_
      cases hF
      exact kRetI hQ C hw (dq dt_X9_childWord 29 rfl)
  · replace hF := if_f c3 hF
    refine lv_iconst (v := (3 : Int32)) hx hb (dq dt_X9_childWord 5 rfl) (by decide) ?_
    refine lv_goto (tgt := 58) hx hb (dq dt_X9_childWord 6 rfl) (by decide) ?_
    cases hF
    exact kRetI hQ C hw (dq dt_X9_childWord 29 rfl)
def F_X9_wordOf (m_place : Int32) (m_end : Int32) (m_text : Nat → Int32) : Option (Int32) :=
  zc1 (F_X9_childWord m_place m_end m_text) (fun v1 => if v1 = (-1 : Int32) then (zc1 (F_X9_isWord m_place m_end m_text (175396 : Int32) (4 : Int32)) (fun v4 => if v4 = 0 then (zc1 (F_X9_isWord m_place m_end m_text (168244 : Int32) (4 : Int32)) (fun v7 => if v7 = 0 then (zc1 (F_X9_isWord m_place m_end m_text (529587 : Int32) (4 : Int32)) (fun v10 => if v10 = 0 then (zc1 (F_X9_isWord m_place m_end m_text (26180 : Int32) (3 : Int32)) (fun v13 => if v13 = 0 then (zc1 (F_X9_isWord m_place m_end m_text (418881651 : Int32) (6 : Int32)) (fun v16 => if v16 = 0 then (some (-1 : Int32)) else (some (8 : Int32)))) else (some (7 : Int32)))) else (some (2 : Int32)))) else (some (1 : Int32)))) else (some (0 : Int32)))) else (some v1))
abbrev rm_X9_wordOf : Room := { frames := 2, cells := 0, slots := 0, locals := 44 }
theorem kd_X9_wordOf : yX9_wordOf.cls = RX9 ∧ yX9_wordOf.cls ≠ "java/lang/invoke/MethodHandle" ∧ yX9_wordOf.cls ≠ "java/lang/invoke/VarHandle" ∧ (parseMethodDescriptor yX9_wordOf.desc).map (fun d => d.parameters.length) = some 0 := by decide +kernel
set_option maxRecDepth 100000 in
set_option maxHeartbeats 4000000 in
theorem A_X9_wordOf (l : Launch) (D : va_G) (cB cI cJ cZ : ClassId) (ad : (Nat → Nat) × (Nat → Nat)) (a_m a_m_row a_m_isKept a_m_text a_m_read a_m_tides a_m_seeps a_m_kinds a_m_paces a_m_ears a_m_hearers a_m_chosen a_m_dues a_m_sights : Nat) (m_length : Int32) (m_readMany : Int32) (m_yards : Int32) (m_seepMany : Int32) (m_many : Int32) (m_at : Int32) (m_place : Int32) (m_end : Int32) (m_readYards : Int32) (m_readSeeps : Int32) (m_readChildren : Int32) (m_chosenMany : Int32) (m_seenMany : Int32) (m_text : Nat → Int32) (r : Int32) (hF : F_X9_wordOf m_place m_end m_text = some r) : kM l yX9_wordOf (Cond.code yX9_wordOf cX9_wordOf 2 (some .int) :: W0) rm_X9_wordOf D (kT cB cI cJ cZ) ad [.ref a_m] [(a_m, .inr (9, [.ref a_m_row, .ref a_m_isKept, .ref a_m_text, .int m_length, .ref a_m_read, .int m_readMany, .int m_yards, .ref a_m_tides, .ref a_m_seeps, .int m_seepMany, .ref a_m_kinds, .ref a_m_paces, .ref a_m_ears, .int m_many, .int m_at, .int m_place, .int m_end, .int m_readYards, .int m_readSeeps, .int m_readChildren, .ref a_m_hearers, .ref a_m_chosen, .int m_chosenMany, .ref a_m_dues, .ref a_m_sights, .int m_seenMany])), (a_m_text, .inl (cI, 200, .inl m_text))] (some (.int r)) [(a_m, .inr (9, [.ref a_m_row, .ref a_m_isKept, .ref a_m_text, .int m_length, .ref a_m_read, .int m_readMany, .int m_yards, .ref a_m_tides, .ref a_m_seeps, .int m_seepMany, .ref a_m_kinds, .ref a_m_paces, .ref a_m_ears, .int m_many, .int m_at, .int m_place, .int m_end, .int m_readYards, .int m_readSeeps, .int m_readChildren, .ref a_m_hearers, .ref a_m_chosen, .int m_chosenMany, .ref a_m_dues, .ref a_m_sights, .int m_seenMany])), (a_m_text, .inl (cI, 200, .inl m_text))] := by
  unfold F_X9_wordOf at hF
  refine kStart (lv := [(0, .ref a_m)]) (own := "DikeWatchModel") (plainFor_of_name (by decide)) rfl (Nat.le_of_ble_eq_true rfl) rfl ?_
  intro p e s m args below meth c A Q ls hQ C hx hb hw hl
  refine lv_aload_n hx hb (dq dt_X9_wordOf 0 rfl) rfl (lv_at hl 0 rfl) ?_
  obtain ⟨v1, hr2, hF⟩ := zc1_ hF
  refine kCallVR C hw (A_X9_childWord l D cB cI cJ cZ ad a_m a_m_row a_m_isKept a_m_text a_m_read a_m_tides a_m_seeps a_m_kinds a_m_paces a_m_ears a_m_hearers a_m_chosen a_m_dues a_m_sights m_length m_readMany m_yards m_seepMany m_many m_at m_place m_end m_readYards m_readSeeps m_readChildren m_chosenMany m_seenMany m_text v1 hr2) (cwV 0 C.2.2.2.2.2.2.1 (w0_V0 q4_210 q4_207 q4_209 (ws0 25 rfl) q1_10) rfl rfl rfl kd_X9_childWord ⟨Nat.le_of_ble_eq_true rfl, Nat.le_of_ble_eq_true rfl⟩) [0, 1] rfl rfl 0 9 rfl rfl hl.1 rfl rfl rfl (Nat.le_of_ble_eq_true rfl) ⟨Nat.le_of_ble_eq_true rfl, Nat.le_of_ble_eq_true rfl⟩ (dq dt_X9_wordOf 1 rfl) (fun H locs hw => ?_)
  refine lv_istore_n (lv' := [(1, .int v1), (0, .ref a_m)]) hx hb (dq dt_X9_wordOf 2 rfl) rfl hl (by decide) rfl (fun ls hl => ?_)
  refine lv_iload_n hx hb (dq dt_X9_wordOf 3 rfl) rfl (lv_at hl 0 rfl) ?_
  refine lv_iconst (v := (-1 : Int32)) hx hb (dq dt_X9_wordOf 4 rfl) (by decide) ?_
  refine lv_icmp_eq (tgt := 14) hx hb (dq dt_X9_wordOf 5 rfl) (by decide) (fun c3 => ?_) (fun c3 => ?_)
  · replace hF := if_t c3 hF
    refine lv_aload_n hx hb (dq dt_X9_wordOf 8 rfl) rfl (lv_at hl 1 rfl) ?_
    refine lv_ldc (v := (175396 : Int32)) hx hb C.2.2.2.2.2.1 (C.2.2.2.2.2.2.1 _ q4_219) (dq dt_X9_wordOf 9 rfl) ?_
    refine lv_iconst (v := (4 : Int32)) hx hb (dq dt_X9_wordOf 10 rfl) (by decide) ?_
    obtain ⟨v4, hr5, hF⟩ := zc1_ hF
    refine kCallVR C hw (A_X9_isWord l D cB cI cJ cZ ad a_m a_m_row a_m_isKept a_m_text a_m_read a_m_tides a_m_seeps a_m_kinds a_m_paces a_m_ears a_m_hearers a_m_chosen a_m_dues a_m_sights m_length m_readMany m_yards m_seepMany m_many m_at m_place m_end m_readYards m_readSeeps m_readChildren m_chosenMany m_seenMany m_text (175396 : Int32) (4 : Int32) v4 hr5) (cwV 2 C.2.2.2.2.2.2.1 (w0_V0 q4_215 q4_212 q4_214 (ws0 26 rfl) q1_10) rfl rfl rfl kd_X9_isWord ⟨Nat.le_of_ble_eq_true rfl, Nat.le_of_ble_eq_true rfl⟩) [0, 1] rfl rfl 0 9 rfl rfl hl.1 rfl rfl rfl (Nat.le_of_ble_eq_true rfl) ⟨Nat.le_of_ble_eq_true rfl, Nat.le_of_ble_eq_true rfl⟩ (dq dt_X9_wordOf 11 rfl) (fun H locs hw => ?_)
    refine lv_if_eq (tgt := 28) hx hb (dq dt_X9_wordOf 12 rfl) (by decide) (fun c6 => ?_) (fun c6 => ?_)
    · replace hF := if_t c6 hF
      refine lv_aload_n hx hb (dq dt_X9_wordOf 15 rfl) rfl (lv_at hl 1 rfl) ?_
      refine lv_ldc (v := (168244 : Int32)) hx hb C.2.2.2.2.2.1 (C.2.2.2.2.2.2.1 _ q4_220) (dq dt_X9_wordOf 16 rfl) ?_
      refine lv_iconst (v := (4 : Int32)) hx hb (dq dt_X9_wordOf 17 rfl) (by decide) ?_
      obtain ⟨v7, hr8, hF⟩ := zc1_ hF
      refine kCallVR C hw (A_X9_isWord l D cB cI cJ cZ ad a_m a_m_row a_m_isKept a_m_text a_m_read a_m_tides a_m_seeps a_m_kinds a_m_paces a_m_ears a_m_hearers a_m_chosen a_m_dues a_m_sights m_length m_readMany m_yards m_seepMany m_many m_at m_place m_end m_readYards m_readSeeps m_readChildren m_chosenMany m_seenMany m_text (168244 : Int32) (4 : Int32) v7 hr8) (cwV 2 C.2.2.2.2.2.2.1 (w0_V0 q4_215 q4_212 q4_214 (ws0 26 rfl) q1_10) rfl rfl rfl kd_X9_isWord ⟨Nat.le_of_ble_eq_true rfl, Nat.le_of_ble_eq_true rfl⟩) [0, 1] rfl rfl 0 9 rfl rfl hl.1 rfl rfl rfl (Nat.le_of_ble_eq_true rfl) ⟨Nat.le_of_ble_eq_true rfl, Nat.le_of_ble_eq_true rfl⟩ (dq dt_X9_wordOf 18 rfl) (fun H locs hw => ?_)
      refine lv_if_eq (tgt := 42) hx hb (dq dt_X9_wordOf 19 rfl) (by decide) (fun c9 => ?_) (fun c9 => ?_)
      · replace hF := if_t c9 hF
        refine lv_aload_n hx hb (dq dt_X9_wordOf 22 rfl) rfl (lv_at hl 1 rfl) ?_
        refine lv_ldc (v := (529587 : Int32)) hx hb C.2.2.2.2.2.1 (C.2.2.2.2.2.2.1 _ q4_221) (dq dt_X9_wordOf 23 rfl) ?_
        refine lv_iconst (v := (4 : Int32)) hx hb (dq dt_X9_wordOf 24 rfl) (by decide) ?_
        obtain ⟨v10, hr11, hF⟩ := zc1_ hF
        refine kCallVR C hw (A_X9_isWord l D cB cI cJ cZ ad a_m a_m_row a_m_isKept a_m_text a_m_read a_m_tides a_m_seeps a_m_kinds a_m_paces a_m_ears a_m_hearers a_m_chosen a_m_dues a_m_sights m_length m_readMany m_yards m_seepMany m_many m_at m_place m_end m_readYards m_readSeeps m_readChildren m_chosenMany m_seenMany m_text (529587 : Int32) (4 : Int32) v10 hr11) (cwV 2 C.2.2.2.2.2.2.1 (w0_V0 q4_215 q4_212 q4_214 (ws0 26 rfl) q1_10) rfl rfl rfl kd_X9_isWord ⟨Nat.le_of_ble_eq_true rfl, Nat.le_of_ble_eq_true rfl⟩) [0, 1] rfl rfl 0 9 rfl rfl hl.1 rfl rfl rfl (Nat.le_of_ble_eq_true rfl) ⟨Nat.le_of_ble_eq_true rfl, Nat.le_of_ble_eq_true rfl⟩ (dq dt_X9_wordOf 25 rfl) (fun H locs hw => ?_)
        refine lv_if_eq (tgt := 56) hx hb (dq dt_X9_wordOf 26 rfl) (by decide) (fun c12 => ?_) (fun c12 => ?_)
        · replace hF := if_t c12 hF
          refine lv_aload_n hx hb (dq dt_X9_wordOf 29 rfl) rfl (lv_at hl 1 rfl) ?_
          refine lv_sipush (v := (26180 : Int32)) hx hb (dq dt_X9_wordOf 30 rfl) (by decide) ?_
          refine lv_iconst (v := (3 : Int32)) hx hb (dq dt_X9_wordOf 31 rfl) (by decide) ?_
          obtain ⟨v13, hr14, hF⟩ := zc1_ hF
          refine kCallVR C hw (A_X9_isWord l D cB cI cJ cZ ad a_m a_m_row a_m_isKept a_m_text a_m_read a_m_tides a_m_seeps a_m_kinds a_m_paces a_m_ears a_m_hearers a_m_chosen a_m_dues a_m_sights m_length m_readMany m_yards m_seepMany m_many m_at m_place m_end m_readYards m_readSeeps m_readChildren m_chosenMany m_seenMany m_text (26180 : Int32) (3 : Int32) v13 hr14) (cwV 2 C.2.2.2.2.2.2.1 (w0_V0 q4_215 q4_212 q4_214 (ws0 26 rfl) q1_10) rfl rfl rfl kd_X9_isWord ⟨Nat.le_of_ble_eq_true rfl, Nat.le_of_ble_eq_true rfl⟩) [0, 1] rfl rfl 0 9 rfl rfl hl.1 rfl rfl rfl (Nat.le_of_ble_eq_true rfl) ⟨Nat.le_of_ble_eq_true rfl, Nat.le_of_ble_eq_true rfl⟩ (dq dt_X9_wordOf 32 rfl) (fun H locs hw => ?_)
          refine lv_if_eq (tgt := 72) hx hb (dq dt_X9_wordOf 33 rfl) (by decide) (fun c15 => ?_) (fun c15 => ?_)
          · replace hF := if_t c15 hF
            refine lv_aload_n hx hb (dq dt_X9_wordOf 36 rfl) rfl (lv_at hl 1 rfl) ?_
            refine lv_ldc (v := (418881651 : Int32)) hx hb C.2.2.2.2.2.1 (C.2.2.2.2.2.2.1 _ q4_222) (dq dt_X9_wordOf 37 rfl) ?_
            refine lv_bipush (v := (6 : Int32)) hx hb (dq dt_X9_wordOf 38 rfl) (by decide) ?_
            obtain ⟨v16, hr17, hF⟩ := zc1_ hF
            refine kCallVR C hw (A_X9_isWord l D cB cI cJ cZ ad a_m a_m_row a_m_isKept a_m_text a_m_read a_m_tides a_m_seeps a_m_kinds a_m_paces a_m_ears a_m_hearers a_m_chosen a_m_dues a_m_sights m_length m_readMany m_yards m_seepMany m_many m_at m_place m_end m_readYards m_readSeeps m_readChildren m_chosenMany m_seenMany m_text (418881651 : Int32) (6 : Int32) v16 hr17) (cwV 2 C.2.2.2.2.2.2.1 (w0_V0 q4_215 q4_212 q4_214 (ws0 26 rfl) q1_10) rfl rfl rfl kd_X9_isWord ⟨Nat.le_of_ble_eq_true rfl, Nat.le_of_ble_eq_true rfl⟩) [0, 1] rfl rfl 0 9 rfl rfl hl.1 rfl rfl rfl (Nat.le_of_ble_eq_true rfl) ⟨Nat.le_of_ble_eq_true rfl, Nat.le_of_ble_eq_true rfl⟩ (dq dt_X9_wordOf 39 rfl) (fun H locs hw => ?_)
            refine lv_if_eq (tgt := 88) hx hb (dq dt_X9_wordOf 40 rfl) (by decide) (fun c18 => ?_) (fun c18 => ?_)
            · replace hF := if_t c18 hF
              refine lv_iconst (v := (-1 : Int32)) hx hb (dq dt_X9_wordOf 43 rfl) (by decide) ?_
              cases hF
              exact kRetI hQ C hw (dq dt_X9_wordOf 44 rfl)
            · replace hF := if_f c18 hF
              refine lv_bipush (v := (8 : Int32)) hx hb (dq dt_X9_wordOf 41 rfl) (by decide) ?_
              refine lv_goto (tgt := 89) hx hb (dq dt_X9_wordOf 42 rfl) (by decide) ?_
              cases hF
              exact kRetI hQ C hw (dq dt_X9_wordOf 44 rfl)
          · replace hF := if_f c15 hF
            refine lv_bipush (v := (7 : Int32)) hx hb (dq dt_X9_wordOf 34 rfl) (by decide) ?_
            refine lv_goto (tgt := 89) hx hb (dq dt_X9_wordOf 35 rfl) (by decide) ?_
            cases hF
            exact kRetI hQ C hw (dq dt_X9_wordOf 44 rfl)
        · replace hF := if_f c12 hF
          refine lv_iconst (v := (2 : Int32)) hx hb (dq dt_X9_wordOf 27 rfl) (by decide) ?_
          refine lv_goto (tgt := 89) hx hb (dq dt_X9_wordOf 28 rfl) (by decide) ?_
          cases hF
          exact kRetI hQ C hw (dq dt_X9_wordOf 44 rfl)
      · replace hF := if_f c9 hF
        refine lv_iconst (v := (1 : Int32)) hx hb (dq dt_X9_wordOf 20 rfl) (by decide) ?_
        refine lv_goto (tgt := 89) hx hb (dq dt_X9_wordOf 21 rfl) (by decide) ?_
        cases hF
        exact kRetI hQ C hw (dq dt_X9_wordOf 44 rfl)
    · replace hF := if_f c6 hF
      refine lv_iconst (v := (0 : Int32)) hx hb (dq dt_X9_wordOf 13 rfl) (by decide) ?_
      refine lv_goto (tgt := 89) hx hb (dq dt_X9_wordOf 14 rfl) (by decide) ?_
      cases hF
      exact kRetI hQ C hw (dq dt_X9_wordOf 44 rfl)
  · replace hF := if_f c3 hF
    refine lv_iload_n hx hb (dq dt_X9_wordOf 6 rfl) rfl (lv_at hl 0 rfl) ?_
    refine lv_goto (tgt := 89) hx hb (dq dt_X9_wordOf 7 rfl) (by decide) ?_
    cases hF
    exact kRetI hQ C hw (dq dt_X9_wordOf 44 rfl)
def F_X9_reads (m_length : Int32) (m_readMany : Int32) (m_at : Int32) (m_place : Int32) (m_end : Int32) (m_text : Nat → Int32) (m_read : Nat → Int32) (p1 : Int32) (p2 : Int32) (p3 : Int32) : Option (Int32 × Int32 × Int32 × Int32 × (Nat → Int32)) :=
  if m_place = m_length then (some ((0 : Int32), m_at, m_place, m_end, m_read)) else (rd 200 m_text m_place (fun v2 => zc1 (F_X9_sort v2) (fun v4 => if v4 = (2 : Int32) then (if (m_end - m_place) ≤ (2 : Int32) then (zl2 (fun x8 x9 ag10 => if m_end ≤ x9 then (bd (p3.toInt64) (fun v12 => zc1 (F_X9_in (x8.toInt64) (p2.toInt64) v12) (fun v13 => if v13 = 0 then (some ((0 : Int32), m_at, m_place, m_end, m_read)) else (wr 60 ((((5 : Int32) * m_readMany) + (1 : Int32)) + p1) (upd m_read (((((5 : Int32) * m_readMany) + (1 : Int32)) + p1)).toNatClampNeg x8) (fun g16 => zc3 (F_X9_token m_length m_at m_place m_end m_text) (fun g18 g19 g20 => some ((1 : Int32), g18, g19, g20, g16))))))) else (rd 200 m_text x9 (fun v22 => bd ((((10 : Int32) * x8) + v22) - (48 : Int32)) (fun v24 => bd (x9 + (1 : Int32)) (fun v25 => ag10 v24 v25))))) FU (0 : Int32) m_place) else (some ((0 : Int32), m_at, m_place, m_end, m_read))) else (some ((0 : Int32), m_at, m_place, m_end, m_read)))))
abbrev rm_X9_reads : Room := { frames := 2, cells := 0, slots := 0, locals := 40 }
theorem kd_X9_reads : yX9_reads.cls = RX9 ∧ yX9_reads.cls ≠ "java/lang/invoke/MethodHandle" ∧ yX9_reads.cls ≠ "java/lang/invoke/VarHandle" ∧ (parseMethodDescriptor yX9_reads.desc).map (fun d => d.parameters.length) = some 3 := by decide +kernel
set_option maxRecDepth 100000 in
set_option maxHeartbeats 4000000 in
theorem A_X9_reads (l : Launch) (D : va_G) (cB cI cJ cZ : ClassId) (ad : (Nat → Nat) × (Nat → Nat)) (a_m a_m_row a_m_isKept a_m_text a_m_read a_m_tides a_m_seeps a_m_kinds a_m_paces a_m_ears a_m_hearers a_m_chosen a_m_dues a_m_sights : Nat) (m_length : Int32) (m_readMany : Int32) (m_yards : Int32) (m_seepMany : Int32) (m_many : Int32) (m_at : Int32) (m_place : Int32) (m_end : Int32) (m_readYards : Int32) (m_readSeeps : Int32) (m_readChildren : Int32) (m_chosenMany : Int32) (m_seenMany : Int32) (m_text : Nat → Int32) (m_read : Nat → Int32) (p1 : Int32) (p2 : Int32) (p3 : Int32) (r : Int32) (m_at' : Int32) (m_place' : Int32) (m_end' : Int32) (m_read' : Nat → Int32) (hF : F_X9_reads m_length m_readMany m_at m_place m_end m_text m_read p1 p2 p3 = some (r, m_at', m_place', m_end', m_read')) : kM l yX9_reads (Cond.code yX9_reads cX9_reads 6 (some .boolean) :: W0) rm_X9_reads D (kT cB cI cJ cZ) ad [.ref a_m, .int p1, .int p2, .int p3] [(a_m, .inr (9, [.ref a_m_row, .ref a_m_isKept, .ref a_m_text, .int m_length, .ref a_m_read, .int m_readMany, .int m_yards, .ref a_m_tides, .ref a_m_seeps, .int m_seepMany, .ref a_m_kinds, .ref a_m_paces, .ref a_m_ears, .int m_many, .int m_at, .int m_place, .int m_end, .int m_readYards, .int m_readSeeps, .int m_readChildren, .ref a_m_hearers, .ref a_m_chosen, .int m_chosenMany, .ref a_m_dues, .ref a_m_sights, .int m_seenMany])), (a_m_text, .inl (cI, 200, .inl m_text)), (a_m_read, .inl (cI, 60, .inl m_read))] (some (.int r)) [(a_m, .inr (9, [.ref a_m_row, .ref a_m_isKept, .ref a_m_text, .int m_length, .ref a_m_read, .int m_readMany, .int m_yards, .ref a_m_tides, .ref a_m_seeps, .int m_seepMany, .ref a_m_kinds, .ref a_m_paces, .ref a_m_ears, .int m_many, .int (m_at'), .int (m_place'), .int (m_end'), .int m_readYards, .int m_readSeeps, .int m_readChildren, .ref a_m_hearers, .ref a_m_chosen, .int m_chosenMany, .ref a_m_dues, .ref a_m_sights, .int m_seenMany])), (a_m_text, .inl (cI, 200, .inl m_text)), (a_m_read, .inl (cI, 60, .inl (m_read')))] := by
  unfold F_X9_reads at hF
  refine kStart (lv := [(0, .ref a_m), (1, .int p1), (2, .int p2), (3, .int p3)]) (own := "DikeWatchModel") (plainFor_of_name (by decide)) rfl (Nat.le_of_ble_eq_true rfl) rfl ?_
  intro p e s m args below meth c A Q ls hQ C hx hb hw hl
  refine lv_aload_n hx hb (dq dt_X9_reads 0 rfl) rfl (lv_at hl 0 rfl) ?_
  refine kGet (ci := 9) C in_X9 hw 0 rfl rfl 15 (by decide) (C.2.2.2.2.2.2.1 _ q4_110) rfl rfl (dq dt_X9_reads 1 rfl) ?_
  refine lv_aload_n hx hb (dq dt_X9_reads 2 rfl) rfl (lv_at hl 0 rfl) ?_
  refine kGet (ci := 9) C in_X9 hw 0 rfl rfl 3 (by decide) (C.2.2.2.2.2.2.1 _ q4_98) rfl rfl (dq dt_X9_reads 3 rfl) ?_
  refine lv_icmp_eq (tgt := 40) hx hb (dq dt_X9_reads 4 rfl) (by decide) (fun c1 => ?_) (fun c1 => ?_)
  · replace hF := if_t c1 hF
    refine lv_iconst (v := (0 : Int32)) hx hb (dq dt_X9_reads 20 rfl) (by decide) ?_
    cases hF
    exact kRetZ hQ C rfl hw (dq dt_X9_reads 21 rfl)
  · replace hF := if_f c1 hF
    refine lv_aload_n hx hb (dq dt_X9_reads 5 rfl) rfl (lv_at hl 0 rfl) ?_
    refine kGet (ci := 9) C in_X9 hw 0 rfl rfl 2 (by decide) (C.2.2.2.2.2.2.1 _ q4_97) rfl rfl (dq dt_X9_reads 6 rfl) ?_
    refine lv_aload_n hx hb (dq dt_X9_reads 7 rfl) rfl (lv_at hl 0 rfl) ?_
    refine kGet (ci := 9) C in_X9 hw 0 rfl rfl 15 (by decide) (C.2.2.2.2.2.2.1 _ q4_110) rfl rfl (dq dt_X9_reads 8 rfl) ?_
    obtain ⟨v2, ev2, hi3, hF⟩ := rd_ hF
    refine kIald C hw 1 1 rfl rfl hi3 ev2 (dq dt_X9_reads 9 rfl) ?_
    obtain ⟨v4, hr5, hF⟩ := zc1_ hF
    refine kCallSP C hw (A_X9_sort l D cB cI cJ cZ ad v2 v4 hr5) (va_cwS 1 C.2.2.2.2.2.2.1 (w0_S0 q4_198 q4_196 q4_197 q1_10) rfl rfl rfl ke_X9_sort ⟨Nat.le_of_ble_eq_true rfl, Nat.le_of_ble_eq_true rfl⟩) hl.1 rfl rfl rfl (Nat.le_of_ble_eq_true rfl) ⟨Nat.le_of_ble_eq_true rfl, Nat.le_of_ble_eq_true rfl⟩ (dq dt_X9_reads 10 rfl) (fun H locs hw => ?_)
    refine lv_iconst (v := (2 : Int32)) hx hb (dq dt_X9_reads 11 rfl) (by decide) ?_
    refine lv_icmp_ne (tgt := 40) hx hb (dq dt_X9_reads 12 rfl) (by decide) (fun c6 => ?_) (fun c6 => ?_)
    · replace hF := if_f c6 hF
      refine lv_iconst (v := (0 : Int32)) hx hb (dq dt_X9_reads 20 rfl) (by decide) ?_
      cases hF
      exact kRetZ hQ C rfl hw (dq dt_X9_reads 21 rfl)
    · replace hF := if_t c6 hF
      refine lv_aload_n hx hb (dq dt_X9_reads 13 rfl) rfl (lv_at hl 0 rfl) ?_
      refine kGet (ci := 9) C in_X9 hw 0 rfl rfl 16 (by decide) (C.2.2.2.2.2.2.1 _ q4_111) rfl rfl (dq dt_X9_reads 14 rfl) ?_
      refine lv_aload_n hx hb (dq dt_X9_reads 15 rfl) rfl (lv_at hl 0 rfl) ?_
      refine kGet (ci := 9) C in_X9 hw 0 rfl rfl 15 (by decide) (C.2.2.2.2.2.2.1 _ q4_110) rfl rfl (dq dt_X9_reads 16 rfl) ?_
      refine lv_isub hx hb (dq dt_X9_reads 17 rfl) ?_
      refine lv_iconst (v := (2 : Int32)) hx hb (dq dt_X9_reads 18 rfl) (by decide) ?_
      refine lv_icmp_le (tgt := 42) hx hb (dq dt_X9_reads 19 rfl) (by decide) (fun c7 => ?_) (fun c7 => ?_)
      · replace hF := if_t c7 hF
        refine lv_iconst (v := (0 : Int32)) hx hb (dq dt_X9_reads 22 rfl) (by decide) ?_
        refine lv_istore (lv' := [(4, .int (0 : Int32)), (0, .ref a_m), (1, .int p1), (2, .int p2), (3, .int p3)]) hx hb (dq dt_X9_reads 23 rfl) hl (by decide) rfl (fun ls hl => ?_)
        refine lv_aload_n hx hb (dq dt_X9_reads 24 rfl) rfl (lv_at hl 1 rfl) ?_
        refine kGet (ci := 9) C in_X9 hw 0 rfl rfl 15 (by decide) (C.2.2.2.2.2.2.1 _ q4_110) rfl rfl (dq dt_X9_reads 25 rfl) ?_
        refine lv_istore (lv' := [(5, .int m_place), (4, .int (0 : Int32)), (0, .ref a_m), (1, .int p1), (2, .int p2), (3, .int p3)]) hx hb (dq dt_X9_reads 26 rfl) hl (by decide) rfl (fun ls hl => ?_)
        obtain ⟨K10, hK010, hK10, hF⟩ := zl2_ hF
        have L10 : ∀ (n : Nat) (x8 : Int32) (x9 : Int32), K10 n x8 x9 = some (r, m_at', m_place', m_end', m_read') → ∀ (H : Heap) (locs : List Loc) (ls : Array Slot), kW D A s.heap [(a_m, .inr (9, [.ref a_m_row, .ref a_m_isKept, .ref a_m_text, .int m_length, .ref a_m_read, .int m_readMany, .int m_yards, .ref a_m_tides, .ref a_m_seeps, .int m_seepMany, .ref a_m_kinds, .ref a_m_paces, .ref a_m_ears, .int m_many, .int m_at, .int m_place, .int m_end, .int m_readYards, .int m_readSeeps, .int m_readChildren, .ref a_m_hearers, .ref a_m_chosen, .int m_chosenMany, .ref a_m_dues, .ref a_m_sights, .int m_seenMany])), (a_m_text, .inl (cI, 200, .inl m_text)), (a_m_read, .inl (cI, 60, .inl m_read))] H locs → lv_has ls 6 [(0, .ref a_m), (1, .int p1), (2, .int p2), (3, .int p3), (4, .int x8), (5, .int x9)] → W p l e rm_X9_reads s m args below meth c H locs 0 0 Q (F0 m 51 ls []) := by
          intro n
          induction n with
          | zero => intro x8 x9 hF; exact (lp_no (hK010 x8 x9) hF).elim
          | succ n ih10 =>
            intro x8 x9 hF H locs ls hw hl
            replace hF := hK10 n x8 x9 hF
            refine lv_iload hx hb (dq dt_X9_reads 27 rfl) (lv_at hl 5 rfl) ?_
            refine lv_aload_n hx hb (dq dt_X9_reads 28 rfl) rfl (lv_at hl 0 rfl) ?_
            refine kGet (ci := 9) C in_X9 hw 0 rfl rfl 16 (by decide) (C.2.2.2.2.2.2.1 _ q4_111) rfl rfl (dq dt_X9_reads 29 rfl) ?_
            refine lv_icmp_ge (tgt := 84) hx hb (dq dt_X9_reads 30 rfl) (by decide) (fun c11 => ?_) (fun c11 => ?_)
            · replace hF := if_t c11 hF
              refine lv_iload hx hb (dq dt_X9_reads 44 rfl) (lv_at hl 4 rfl) ?_
              refine lv_i2l (v := (x8.toInt64)) hx hb (dq dt_X9_reads 45 rfl) rfl ?_
              refine lv_iload_n hx hb (dq dt_X9_reads 46 rfl) rfl (lv_at hl 2 rfl) ?_
              refine lv_i2l (v := (p2.toInt64)) hx hb (dq dt_X9_reads 47 rfl) rfl ?_
              refine lv_iload_n hx hb (dq dt_X9_reads 48 rfl) rfl (lv_at hl 3 rfl) ?_
              refine lv_i2l (v := (p3.toInt64)) hx hb (dq dt_X9_reads 49 rfl) rfl ?_
              obtain ⟨v12, ev12, hF⟩ := bd_ hF
              refine kNmL ev12 ?_
              obtain ⟨v13, hr14, hF⟩ := zc1_ hF
              refine kCallSP C hw (A_X9_in l D cB cI cJ cZ ad (x8.toInt64) (p2.toInt64) v12 v13 hr14) (va_cwS 3 C.2.2.2.2.2.2.1 (w0_S0 q4_182 q4_180 q4_181 q1_10) rfl rfl rfl ke_X9_in ⟨Nat.le_of_ble_eq_true rfl, Nat.le_of_ble_eq_true rfl⟩) hl.1 rfl rfl rfl (Nat.le_of_ble_eq_true rfl) ⟨Nat.le_of_ble_eq_true rfl, Nat.le_of_ble_eq_true rfl⟩ (dq dt_X9_reads 50 rfl) (fun H locs hw => ?_)
              refine lv_if_ne (tgt := 99) hx hb (dq dt_X9_reads 51 rfl) (by decide) (fun c15 => ?_) (fun c15 => ?_)
              · replace hF := if_f c15 hF
                refine lv_aload_n hx hb (dq dt_X9_reads 54 rfl) rfl (lv_at hl 0 rfl) ?_
                refine kGet (ci := 9) C in_X9 hw 0 rfl rfl 4 (by decide) (C.2.2.2.2.2.2.1 _ q4_99) rfl rfl (dq dt_X9_reads 55 rfl) ?_
                refine lv_iconst (v := (5 : Int32)) hx hb (dq dt_X9_reads 56 rfl) (by decide) ?_
                refine lv_aload_n hx hb (dq dt_X9_reads 57 rfl) rfl (lv_at hl 0 rfl) ?_
                refine kGet (ci := 9) C in_X9 hw 0 rfl rfl 5 (by decide) (C.2.2.2.2.2.2.1 _ q4_100) rfl rfl (dq dt_X9_reads 58 rfl) ?_
                refine lv_imul hx hb (dq dt_X9_reads 59 rfl) ?_
                refine lv_iconst (v := (1 : Int32)) hx hb (dq dt_X9_reads 60 rfl) (by decide) ?_
                refine lv_iadd hx hb (dq dt_X9_reads 61 rfl) ?_
                refine lv_iload_n hx hb (dq dt_X9_reads 62 rfl) rfl (lv_at hl 1 rfl) ?_
                refine lv_iadd hx hb (dq dt_X9_reads 63 rfl) ?_
                refine lv_iload hx hb (dq dt_X9_reads 64 rfl) (lv_at hl 4 rfl) ?_
                obtain ⟨g16, eg16, hi17, hF⟩ := wr_ hF
                refine kIast (ws' := [(a_m, .inr (9, [.ref a_m_row, .ref a_m_isKept, .ref a_m_text, .int m_length, .ref a_m_read, .int m_readMany, .int m_yards, .ref a_m_tides, .ref a_m_seeps, .int m_seepMany, .ref a_m_kinds, .ref a_m_paces, .ref a_m_ears, .int m_many, .int m_at, .int m_place, .int m_end, .int m_readYards, .int m_readSeeps, .int m_readChildren, .ref a_m_hearers, .ref a_m_chosen, .int m_chosenMany, .ref a_m_dues, .ref a_m_sights, .int m_seenMany])), (a_m_text, .inl (cI, 200, .inl m_text)), (a_m_read, .inl (cI, 60, .inl g16))]) C hw 2 1 rfl rfl hi17 eg16 rfl (dq dt_X9_reads 65 rfl) (fun H locs hw => ?_)
                refine lv_aload_n hx hb (dq dt_X9_reads 66 rfl) rfl (lv_at hl 0 rfl) ?_
                obtain ⟨g18, g19, g20, hr21, hF⟩ := zc3_ hF
                refine kCallV (ws2 := [(a_m, .inr (9, [.ref a_m_row, .ref a_m_isKept, .ref a_m_text, .int m_length, .ref a_m_read, .int m_readMany, .int m_yards, .ref a_m_tides, .ref a_m_seeps, .int m_seepMany, .ref a_m_kinds, .ref a_m_paces, .ref a_m_ears, .int m_many, .int g18, .int g19, .int g20, .int m_readYards, .int m_readSeeps, .int m_readChildren, .ref a_m_hearers, .ref a_m_chosen, .int m_chosenMany, .ref a_m_dues, .ref a_m_sights, .int m_seenMany])), (a_m_text, .inl (cI, 200, .inl m_text)), (a_m_read, .inl (cI, 60, .inl g16))]) C hw (A_X9_token l D cB cI cJ cZ ad a_m a_m_row a_m_isKept a_m_text a_m_read a_m_tides a_m_seeps a_m_kinds a_m_paces a_m_ears a_m_hearers a_m_chosen a_m_dues a_m_sights m_length m_readMany m_yards m_seepMany m_many m_at m_place m_end m_readYards m_readSeeps m_readChildren m_chosenMany m_seenMany m_text g18 g19 g20 hr21) (cwV 0 C.2.2.2.2.2.2.1 (w0_V0 q4_195 q4_192 q4_194 (ws0 22 rfl) q1_10) rfl rfl rfl kd_X9_token ⟨Nat.le_of_ble_eq_true rfl, Nat.le_of_ble_eq_true rfl⟩) [0, 1] rfl rfl rfl rfl 0 9 rfl rfl hl.1 rfl rfl rfl (Nat.le_of_ble_eq_true rfl) ⟨Nat.le_of_ble_eq_true rfl, Nat.le_of_ble_eq_true rfl⟩ (dq dt_X9_reads 67 rfl) (fun H locs hw => ?_)
                refine lv_iconst (v := (1 : Int32)) hx hb (dq dt_X9_reads 68 rfl) (by decide) ?_
                cases hF
                exact kRetZ hQ C rfl hw (dq dt_X9_reads 69 rfl)
              · replace hF := if_t c15 hF
                refine lv_iconst (v := (0 : Int32)) hx hb (dq dt_X9_reads 52 rfl) (by decide) ?_
                cases hF
                exact kRetZ hQ C rfl hw (dq dt_X9_reads 53 rfl)
            · replace hF := if_f c11 hF
              refine lv_bipush (v := (10 : Int32)) hx hb (dq dt_X9_reads 31 rfl) (by decide) ?_
              refine lv_iload hx hb (dq dt_X9_reads 32 rfl) (lv_at hl 4 rfl) ?_
              refine lv_imul hx hb (dq dt_X9_reads 33 rfl) ?_
              refine lv_aload_n hx hb (dq dt_X9_reads 34 rfl) rfl (lv_at hl 0 rfl) ?_
              refine kGet (ci := 9) C in_X9 hw 0 rfl rfl 2 (by decide) (C.2.2.2.2.2.2.1 _ q4_97) rfl rfl (dq dt_X9_reads 35 rfl) ?_
              refine lv_iload hx hb (dq dt_X9_reads 36 rfl) (lv_at hl 5 rfl) ?_
              obtain ⟨v22, ev22, hi23, hF⟩ := rd_ hF
              refine kIald C hw 1 1 rfl rfl hi23 ev22 (dq dt_X9_reads 37 rfl) ?_
              refine lv_iadd hx hb (dq dt_X9_reads 38 rfl) ?_
              refine lv_bipush (v := (48 : Int32)) hx hb (dq dt_X9_reads 39 rfl) (by decide) ?_
              refine lv_isub hx hb (dq dt_X9_reads 40 rfl) ?_
              obtain ⟨v24, ev24, hF⟩ := bd_ hF
              refine kNmI ev24 ?_
              refine lv_istore (lv' := [(4, .int v24), (0, .ref a_m), (1, .int p1), (2, .int p2), (3, .int p3), (5, .int x9)]) hx hb (dq dt_X9_reads 41 rfl) hl (by decide) rfl (fun ls hl => ?_)
              obtain ⟨v25, ev25, hF⟩ := bd_ hF
              refine lv_iinc (v := v25) (lv' := [(5, .int v25), (4, .int v24), (0, .ref a_m), (1, .int p1), (2, .int p2), (3, .int p3)]) hx hb (dq dt_X9_reads 42 rfl) hl (k := 5) rfl ev25.symm (by decide) rfl (fun ls hl => ?_)
              refine lv_goto (tgt := 51) hx hb (dq dt_X9_reads 43 rfl) (by decide) ?_
              exact ih10 v24 v25 hF _ _ _ hw (lv_sub hl [2, 3, 4, 5, 1, 0] rfl)
        exact L10 _ (0 : Int32) m_place hF _ _ _ hw (lv_sub hl [2, 3, 4, 5, 1, 0] rfl)
      · replace hF := if_f c7 hF
        refine lv_iconst (v := (0 : Int32)) hx hb (dq dt_X9_reads 20 rfl) (by decide) ?_
        cases hF
        exact kRetZ hQ C rfl hw (dq dt_X9_reads 21 rfl)
def F_X9_readsRest (m_length : Int32) (m_readMany : Int32) (m_at : Int32) (m_place : Int32) (m_end : Int32) (m_readYards : Int32) (m_text : Nat → Int32) (m_read : Nat → Int32) (p1 : Int32) : Option (Int32 × Int32 × Int32 × Int32 × (Nat → Int32)) :=
  bd (m_readYards - (1 : Int32)) (fun v1 => if p1 = (0 : Int32) then (zc5 (F_X9_reads m_length m_readMany m_at m_place m_end m_text m_read (0 : Int32) (4 : Int32) (24 : Int32)) (fun v3 g4 g5 g6 g7 => ckZ v3 (some (v3, g4, g5, g6, g7)))) else (if p1 = (1 : Int32) then (zc5 (F_X9_reads m_length m_readMany m_at m_place m_end m_text m_read (0 : Int32) (0 : Int32) (11 : Int32)) (fun v10 g11 g12 g13 g14 => if v10 = 0 then (some ((0 : Int32), g11, g12, g13, g14)) else (zc5 (F_X9_reads m_length m_readMany g11 g12 g13 m_text g14 (1 : Int32) (0 : Int32) (9 : Int32)) (fun v17 g18 g19 g20 g21 => if v17 = 0 then (some ((0 : Int32), g18, g19, g20, g21)) else (some ((1 : Int32), g18, g19, g20, g21)))))) else (if p1 = (2 : Int32) then (zc5 (F_X9_reads m_length m_readMany m_at m_place m_end m_text m_read (0 : Int32) (0 : Int32) v1) (fun v25 g26 g27 g28 g29 => if v25 = 0 then (some ((0 : Int32), g26, g27, g28, g29)) else (zc5 (F_X9_reads m_length m_readMany g26 g27 g28 m_text g29 (1 : Int32) (1 : Int32) (99 : Int32)) (fun v32 g33 g34 g35 g36 => if v32 = 0 then (some ((0 : Int32), g33, g34, g35, g36)) else (zc5 (F_X9_reads m_length m_readMany g33 g34 g35 m_text g36 (2 : Int32) (0 : Int32) (9 : Int32)) (fun v39 g40 g41 g42 g43 => if v39 = 0 then (some ((0 : Int32), g40, g41, g42, g43)) else (zc5 (F_X9_reads m_length m_readMany g40 g41 g42 m_text g43 (3 : Int32) (0 : Int32) (9 : Int32)) (fun v46 g47 g48 g49 g50 => if v46 = 0 then (some ((0 : Int32), g47, g48, g49, g50)) else (some ((1 : Int32), g47, g48, g49, g50)))))))))) else (if p1 = (3 : Int32) then (zc5 (F_X9_reads m_length m_readMany m_at m_place m_end m_text m_read (0 : Int32) (0 : Int32) v1) (fun v54 g55 g56 g57 g58 => if v54 = 0 then (some ((0 : Int32), g55, g56, g57, g58)) else (zc5 (F_X9_reads m_length m_readMany g55 g56 g57 m_text g58 (1 : Int32) (0 : Int32) (3 : Int32)) (fun v61 g62 g63 g64 g65 => if v61 = 0 then (some ((0 : Int32), g62, g63, g64, g65)) else (zc5 (F_X9_reads m_length m_readMany g62 g63 g64 m_text g65 (2 : Int32) (0 : Int32) (9 : Int32)) (fun v68 g69 g70 g71 g72 => if v68 = 0 then (some ((0 : Int32), g69, g70, g71, g72)) else (some ((1 : Int32), g69, g70, g71, g72)))))))) else (if p1 = (4 : Int32) then (zc5 (F_X9_reads m_length m_readMany m_at m_place m_end m_text m_read (0 : Int32) (0 : Int32) v1) (fun v76 g77 g78 g79 g80 => if v76 = 0 then (some ((0 : Int32), g77, g78, g79, g80)) else (zc5 (F_X9_reads m_length m_readMany g77 g78 g79 m_text g80 (1 : Int32) (0 : Int32) (3 : Int32)) (fun v83 g84 g85 g86 g87 => if v83 = 0 then (some ((0 : Int32), g84, g85, g86, g87)) else (zc5 (F_X9_reads m_length m_readMany g84 g85 g86 m_text g87 (2 : Int32) (0 : Int32) (9 : Int32)) (fun v90 g91 g92 g93 g94 => if v90 = 0 then (some ((0 : Int32), g91, g92, g93, g94)) else (some ((1 : Int32), g91, g92, g93, g94)))))))) else (if p1 = (5 : Int32) then (zc5 (F_X9_reads m_length m_readMany m_at m_place m_end m_text m_read (0 : Int32) (0 : Int32) v1) (fun v98 g99 g100 g101 g102 => if v98 = 0 then (some ((0 : Int32), g99, g100, g101, g102)) else (zc5 (F_X9_reads m_length m_readMany g99 g100 g101 m_text g102 (1 : Int32) (0 : Int32) (3 : Int32)) (fun v105 g106 g107 g108 g109 => if v105 = 0 then (some ((0 : Int32), g106, g107, g108, g109)) else (zc5 (F_X9_reads m_length m_readMany g106 g107 g108 m_text g109 (2 : Int32) (0 : Int32) (9 : Int32)) (fun v112 g113 g114 g115 g116 => if v112 = 0 then (some ((0 : Int32), g113, g114, g115, g116)) else (some ((1 : Int32), g113, g114, g115, g116)))))))) else (if p1 = (6 : Int32) then (zc5 (F_X9_reads m_length m_readMany m_at m_place m_end m_text m_read (0 : Int32) (0 : Int32) v1) (fun v120 g121 g122 g123 g124 => if v120 = 0 then (some ((0 : Int32), g121, g122, g123, g124)) else (zc5 (F_X9_reads m_length m_readMany g121 g122 g123 m_text g124 (1 : Int32) (0 : Int32) (3 : Int32)) (fun v127 g128 g129 g130 g131 => if v127 = 0 then (some ((0 : Int32), g128, g129, g130, g131)) else (zc5 (F_X9_reads m_length m_readMany g128 g129 g130 m_text g131 (2 : Int32) (0 : Int32) (9 : Int32)) (fun v134 g135 g136 g137 g138 => if v134 = 0 then (some ((0 : Int32), g135, g136, g137, g138)) else (some ((1 : Int32), g135, g136, g137, g138)))))))) else (if p1 = (7 : Int32) then (some ((1 : Int32), m_at, m_place, m_end, m_read)) else (if p1 = (8 : Int32) then (some ((1 : Int32), m_at, m_place, m_end, m_read)) else (zc5 (F_X9_reads m_length m_readMany m_at m_place m_end m_text m_read (0 : Int32) (0 : Int32) v1) (fun v143 g144 g145 g146 g147 => if v143 = 0 then (some ((0 : Int32), g144, g145, g146, g147)) else (zc5 (F_X9_reads m_length m_readMany g144 g145 g146 m_text g147 (1 : Int32) (0 : Int32) (3 : Int32)) (fun v150 g151 g152 g153 g154 => if v150 = 0 then (some ((0 : Int32), g151, g152, g153, g154)) else (zc5 (F_X9_reads m_length m_readMany g151 g152 g153 m_text g154 (2 : Int32) (0 : Int32) (9 : Int32)) (fun v157 g158 g159 g160 g161 => if v157 = 0 then (some ((0 : Int32), g158, g159, g160, g161)) else (some ((1 : Int32), g158, g159, g160, g161)))))))))))))))))
abbrev rm_X9_readsRest : Room := { frames := 3, cells := 0, slots := 0, locals := 65 }
theorem kd_X9_readsRest : yX9_readsRest.cls = RX9 ∧ yX9_readsRest.cls ≠ "java/lang/invoke/MethodHandle" ∧ yX9_readsRest.cls ≠ "java/lang/invoke/VarHandle" ∧ (parseMethodDescriptor yX9_readsRest.desc).map (fun d => d.parameters.length) = some 1 := by decide +kernel
set_option maxRecDepth 100000 in
set_option maxHeartbeats 4000000 in
theorem A_X9_readsRest (l : Launch) (D : va_G) (cB cI cJ cZ : ClassId) (ad : (Nat → Nat) × (Nat → Nat)) (a_m a_m_row a_m_isKept a_m_text a_m_read a_m_tides a_m_seeps a_m_kinds a_m_paces a_m_ears a_m_hearers a_m_chosen a_m_dues a_m_sights : Nat) (m_length : Int32) (m_readMany : Int32) (m_yards : Int32) (m_seepMany : Int32) (m_many : Int32) (m_at : Int32) (m_place : Int32) (m_end : Int32) (m_readYards : Int32) (m_readSeeps : Int32) (m_readChildren : Int32) (m_chosenMany : Int32) (m_seenMany : Int32) (m_text : Nat → Int32) (m_read : Nat → Int32) (p1 : Int32) (r : Int32) (m_at' : Int32) (m_place' : Int32) (m_end' : Int32) (m_read' : Nat → Int32) (hF : F_X9_readsRest m_length m_readMany m_at m_place m_end m_readYards m_text m_read p1 = some (r, m_at', m_place', m_end', m_read')) : kM l yX9_readsRest (Cond.code yX9_readsRest cX9_readsRest 3 (some .boolean) :: W0) rm_X9_readsRest D (kT cB cI cJ cZ) ad [.ref a_m, .int p1] [(a_m, .inr (9, [.ref a_m_row, .ref a_m_isKept, .ref a_m_text, .int m_length, .ref a_m_read, .int m_readMany, .int m_yards, .ref a_m_tides, .ref a_m_seeps, .int m_seepMany, .ref a_m_kinds, .ref a_m_paces, .ref a_m_ears, .int m_many, .int m_at, .int m_place, .int m_end, .int m_readYards, .int m_readSeeps, .int m_readChildren, .ref a_m_hearers, .ref a_m_chosen, .int m_chosenMany, .ref a_m_dues, .ref a_m_sights, .int m_seenMany])), (a_m_text, .inl (cI, 200, .inl m_text)), (a_m_read, .inl (cI, 60, .inl m_read))] (some (.int r)) [(a_m, .inr (9, [.ref a_m_row, .ref a_m_isKept, .ref a_m_text, .int m_length, .ref a_m_read, .int m_readMany, .int m_yards, .ref a_m_tides, .ref a_m_seeps, .int m_seepMany, .ref a_m_kinds, .ref a_m_paces, .ref a_m_ears, .int m_many, .int (m_at'), .int (m_place'), .int (m_end'), .int m_readYards, .int m_readSeeps, .int m_readChildren, .ref a_m_hearers, .ref a_m_chosen, .int m_chosenMany, .ref a_m_dues, .ref a_m_sights, .int m_seenMany])), (a_m_text, .inl (cI, 200, .inl m_text)), (a_m_read, .inl (cI, 60, .inl (m_read')))] := by
  unfold F_X9_readsRest at hF
  refine kStart (lv := [(0, .ref a_m), (1, .int p1)]) (own := "DikeWatchModel") (plainFor_of_name (by decide)) rfl (Nat.le_of_ble_eq_true rfl) rfl ?_
  intro p e s m args below meth c A Q ls hQ C hx hb hw hl
  refine lv_aload_n hx hb (dq dt_X9_readsRest 0 rfl) rfl (lv_at hl 0 rfl) ?_
  refine kGet (ci := 9) C in_X9 hw 0 rfl rfl 17 (by decide) (C.2.2.2.2.2.2.1 _ q4_112) rfl rfl (dq dt_X9_readsRest 1 rfl) ?_
  refine lv_iconst (v := (1 : Int32)) hx hb (dq dt_X9_readsRest 2 rfl) (by decide) ?_
  refine lv_isub hx hb (dq dt_X9_readsRest 3 rfl) ?_
  obtain ⟨v1, ev1, hF⟩ := bd_ hF
  refine kNmI ev1 ?_
  refine lv_istore_n (lv' := [(2, .int v1), (0, .ref a_m), (1, .int p1)]) hx hb (dq dt_X9_readsRest 4 rfl) rfl hl (by decide) rfl (fun ls hl => ?_)
  refine lv_iload_n hx hb (dq dt_X9_readsRest 5 rfl) rfl (lv_at hl 2 rfl) ?_
  by_cases c2 : p1 = (0 : Int32)
  · replace hF := if_t c2 hF
    refine lv_tableIn (lo := 0) (hi := 8) (tgt := 60) hx hb (dq dt_X9_readsRest 6 rfl) (by rw [c2]; decide) (by rw [c2]; decide) (by rw [c2]; rfl) (by decide) ?_
    refine lv_aload_n hx hb (dq dt_X9_readsRest 7 rfl) rfl (lv_at hl 1 rfl) ?_
    refine lv_iconst (v := (0 : Int32)) hx hb (dq dt_X9_readsRest 8 rfl) (by decide) ?_
    refine lv_iconst (v := (4 : Int32)) hx hb (dq dt_X9_readsRest 9 rfl) (by decide) ?_
    refine lv_bipush (v := (24 : Int32)) hx hb (dq dt_X9_readsRest 10 rfl) (by decide) ?_
    obtain ⟨v3, g4, g5, g6, g7, hr8, hF⟩ := zc5_ hF
    refine kCallV (ws2 := [(a_m, .inr (9, [.ref a_m_row, .ref a_m_isKept, .ref a_m_text, .int m_length, .ref a_m_read, .int m_readMany, .int m_yards, .ref a_m_tides, .ref a_m_seeps, .int m_seepMany, .ref a_m_kinds, .ref a_m_paces, .ref a_m_ears, .int m_many, .int g4, .int g5, .int g6, .int m_readYards, .int m_readSeeps, .int m_readChildren, .ref a_m_hearers, .ref a_m_chosen, .int m_chosenMany, .ref a_m_dues, .ref a_m_sights, .int m_seenMany])), (a_m_text, .inl (cI, 200, .inl m_text)), (a_m_read, .inl (cI, 60, .inl g7))]) C hw (A_X9_reads l D cB cI cJ cZ ad a_m a_m_row a_m_isKept a_m_text a_m_read a_m_tides a_m_seeps a_m_kinds a_m_paces a_m_ears a_m_hearers a_m_chosen a_m_dues a_m_sights m_length m_readMany m_yards m_seepMany m_many m_at m_place m_end m_readYards m_readSeeps m_readChildren m_chosenMany m_seenMany m_text m_read (0 : Int32) (4 : Int32) (24 : Int32) v3 g4 g5 g6 g7 hr8) (cwV 3 C.2.2.2.2.2.2.1 (w0_V0 q4_235 q4_232 q4_234 (ws0 28 rfl) q1_10) rfl rfl rfl kd_X9_reads ⟨Nat.le_of_ble_eq_true rfl, Nat.le_of_ble_eq_true rfl⟩) [0, 1, 2] rfl rfl rfl rfl 0 9 rfl rfl hl.1 rfl rfl rfl (Nat.le_of_ble_eq_true rfl) ⟨Nat.le_of_ble_eq_true rfl, Nat.le_of_ble_eq_true rfl⟩ (dq dt_X9_readsRest 11 rfl) (fun H locs hw => ?_)
    obtain ⟨hn, hF⟩ := ckZ_ hF
    cases hF
    exact kRetZ hQ C hn hw (dq dt_X9_readsRest 12 rfl)
  replace hF := if_f c2 hF
  by_cases c9 : p1 = (1 : Int32)
  · replace hF := if_t c9 hF
    refine lv_tableIn (lo := 0) (hi := 8) (tgt := 69) hx hb (dq dt_X9_readsRest 6 rfl) (by rw [c9]; decide) (by rw [c9]; decide) (by rw [c9]; rfl) (by decide) ?_
    refine lv_aload_n hx hb (dq dt_X9_readsRest 13 rfl) rfl (lv_at hl 1 rfl) ?_
    refine lv_iconst (v := (0 : Int32)) hx hb (dq dt_X9_readsRest 14 rfl) (by decide) ?_
    refine lv_iconst (v := (0 : Int32)) hx hb (dq dt_X9_readsRest 15 rfl) (by decide) ?_
    refine lv_bipush (v := (11 : Int32)) hx hb (dq dt_X9_readsRest 16 rfl) (by decide) ?_
    obtain ⟨v10, g11, g12, g13, g14, hr15, hF⟩ := zc5_ hF
    refine kCallV (ws2 := [(a_m, .inr (9, [.ref a_m_row, .ref a_m_isKept, .ref a_m_text, .int m_length, .ref a_m_read, .int m_readMany, .int m_yards, .ref a_m_tides, .ref a_m_seeps, .int m_seepMany, .ref a_m_kinds, .ref a_m_paces, .ref a_m_ears, .int m_many, .int g11, .int g12, .int g13, .int m_readYards, .int m_readSeeps, .int m_readChildren, .ref a_m_hearers, .ref a_m_chosen, .int m_chosenMany, .ref a_m_dues, .ref a_m_sights, .int m_seenMany])), (a_m_text, .inl (cI, 200, .inl m_text)), (a_m_read, .inl (cI, 60, .inl g14))]) C hw (A_X9_reads l D cB cI cJ cZ ad a_m a_m_row a_m_isKept a_m_text a_m_read a_m_tides a_m_seeps a_m_kinds a_m_paces a_m_ears a_m_hearers a_m_chosen a_m_dues a_m_sights m_length m_readMany m_yards m_seepMany m_many m_at m_place m_end m_readYards m_readSeeps m_readChildren m_chosenMany m_seenMany m_text m_read (0 : Int32) (0 : Int32) (11 : Int32) v10 g11 g12 g13 g14 hr15) (cwV 3 C.2.2.2.2.2.2.1 (w0_V0 q4_235 q4_232 q4_234 (ws0 28 rfl) q1_10) rfl rfl rfl kd_X9_reads ⟨Nat.le_of_ble_eq_true rfl, Nat.le_of_ble_eq_true rfl⟩) [0, 1, 2] rfl rfl rfl rfl 0 9 rfl rfl hl.1 rfl rfl rfl (Nat.le_of_ble_eq_true rfl) ⟨Nat.le_of_ble_eq_true rfl, Nat.le_of_ble_eq_true rfl⟩ (dq dt_X9_readsRest 17 rfl) (fun H locs hw => ?_)
    refine lv_if_eq (tgt := 95) hx hb (dq dt_X9_readsRest 18 rfl) (by decide) (fun c16 => ?_) (fun c16 => ?_)
    · replace hF := if_t c16 hF
      refine lv_iconst (v := (0 : Int32)) hx hb (dq dt_X9_readsRest 27 rfl) (by decide) ?_
      cases hF
      exact kRetZ hQ C rfl hw (dq dt_X9_readsRest 28 rfl)
    · replace hF := if_f c16 hF
      refine lv_aload_n hx hb (dq dt_X9_readsRest 19 rfl) rfl (lv_at hl 1 rfl) ?_
      refine lv_iconst (v := (1 : Int32)) hx hb (dq dt_X9_readsRest 20 rfl) (by decide) ?_
      refine lv_iconst (v := (0 : Int32)) hx hb (dq dt_X9_readsRest 21 rfl) (by decide) ?_
      refine lv_bipush (v := (9 : Int32)) hx hb (dq dt_X9_readsRest 22 rfl) (by decide) ?_
      obtain ⟨v17, g18, g19, g20, g21, hr22, hF⟩ := zc5_ hF
      refine kCallV (ws2 := [(a_m, .inr (9, [.ref a_m_row, .ref a_m_isKept, .ref a_m_text, .int m_length, .ref a_m_read, .int m_readMany, .int m_yards, .ref a_m_tides, .ref a_m_seeps, .int m_seepMany, .ref a_m_kinds, .ref a_m_paces, .ref a_m_ears, .int m_many, .int g18, .int g19, .int g20, .int m_readYards, .int m_readSeeps, .int m_readChildren, .ref a_m_hearers, .ref a_m_chosen, .int m_chosenMany, .ref a_m_dues, .ref a_m_sights, .int m_seenMany])), (a_m_text, .inl (cI, 200, .inl m_text)), (a_m_read, .inl (cI, 60, .inl g21))]) C hw (A_X9_reads l D cB cI cJ cZ ad a_m a_m_row a_m_isKept a_m_text a_m_read a_m_tides a_m_seeps a_m_kinds a_m_paces a_m_ears a_m_hearers a_m_chosen a_m_dues a_m_sights m_length m_readMany m_yards m_seepMany m_many g11 g12 g13 m_readYards m_readSeeps m_readChildren m_chosenMany m_seenMany m_text g14 (1 : Int32) (0 : Int32) (9 : Int32) v17 g18 g19 g20 g21 hr22) (cwV 3 C.2.2.2.2.2.2.1 (w0_V0 q4_235 q4_232 q4_234 (ws0 28 rfl) q1_10) rfl rfl rfl kd_X9_reads ⟨Nat.le_of_ble_eq_true rfl, Nat.le_of_ble_eq_true rfl⟩) [0, 1, 2] rfl rfl rfl rfl 0 9 rfl rfl hl.1 rfl rfl rfl (Nat.le_of_ble_eq_true rfl) ⟨Nat.le_of_ble_eq_true rfl, Nat.le_of_ble_eq_true rfl⟩ (dq dt_X9_readsRest 23 rfl) (fun H locs hw => ?_)
      refine lv_if_eq (tgt := 95) hx hb (dq dt_X9_readsRest 24 rfl) (by decide) (fun c23 => ?_) (fun c23 => ?_)
      · replace hF := if_t c23 hF
        refine lv_iconst (v := (0 : Int32)) hx hb (dq dt_X9_readsRest 27 rfl) (by decide) ?_
        cases hF
        exact kRetZ hQ C rfl hw (dq dt_X9_readsRest 28 rfl)
      · replace hF := if_f c23 hF
        refine lv_iconst (v := (1 : Int32)) hx hb (dq dt_X9_readsRest 25 rfl) (by decide) ?_
        refine lv_goto (tgt := 96) hx hb (dq dt_X9_readsRest 26 rfl) (by decide) ?_
        cases hF
        exact kRetZ hQ C rfl hw (dq dt_X9_readsRest 28 rfl)
  replace hF := if_f c9 hF
  by_cases c24 : p1 = (2 : Int32)
  · replace hF := if_t c24 hF
    refine lv_tableIn (lo := 0) (hi := 8) (tgt := 97) hx hb (dq dt_X9_readsRest 6 rfl) (by rw [c24]; decide) (by rw [c24]; decide) (by rw [c24]; rfl) (by decide) ?_
    refine lv_aload_n hx hb (dq dt_X9_readsRest 29 rfl) rfl (lv_at hl 1 rfl) ?_
    refine lv_iconst (v := (0 : Int32)) hx hb (dq dt_X9_readsRest 30 rfl) (by decide) ?_
    refine lv_iconst (v := (0 : Int32)) hx hb (dq dt_X9_readsRest 31 rfl) (by decide) ?_
    refine lv_iload_n hx hb (dq dt_X9_readsRest 32 rfl) rfl (lv_at hl 0 rfl) ?_
    obtain ⟨v25, g26, g27, g28, g29, hr30, hF⟩ := zc5_ hF
    refine kCallV (ws2 := [(a_m, .inr (9, [.ref a_m_row, .ref a_m_isKept, .ref a_m_text, .int m_length, .ref a_m_read, .int m_readMany, .int m_yards, .ref a_m_tides, .ref a_m_seeps, .int m_seepMany, .ref a_m_kinds, .ref a_m_paces, .ref a_m_ears, .int m_many, .int g26, .int g27, .int g28, .int m_readYards, .int m_readSeeps, .int m_readChildren, .ref a_m_hearers, .ref a_m_chosen, .int m_chosenMany, .ref a_m_dues, .ref a_m_sights, .int m_seenMany])), (a_m_text, .inl (cI, 200, .inl m_text)), (a_m_read, .inl (cI, 60, .inl g29))]) C hw (A_X9_reads l D cB cI cJ cZ ad a_m a_m_row a_m_isKept a_m_text a_m_read a_m_tides a_m_seeps a_m_kinds a_m_paces a_m_ears a_m_hearers a_m_chosen a_m_dues a_m_sights m_length m_readMany m_yards m_seepMany m_many m_at m_place m_end m_readYards m_readSeeps m_readChildren m_chosenMany m_seenMany m_text m_read (0 : Int32) (0 : Int32) v1 v25 g26 g27 g28 g29 hr30) (cwV 3 C.2.2.2.2.2.2.1 (w0_V0 q4_235 q4_232 q4_234 (ws0 28 rfl) q1_10) rfl rfl rfl kd_X9_reads ⟨Nat.le_of_ble_eq_true rfl, Nat.le_of_ble_eq_true rfl⟩) [0, 1, 2] rfl rfl rfl rfl 0 9 rfl rfl hl.1 rfl rfl rfl (Nat.le_of_ble_eq_true rfl) ⟨Nat.le_of_ble_eq_true rfl, Nat.le_of_ble_eq_true rfl⟩ (dq dt_X9_readsRest 33 rfl) (fun H locs hw => ?_)
    refine lv_if_eq (tgt := 144) hx hb (dq dt_X9_readsRest 34 rfl) (by decide) (fun c31 => ?_) (fun c31 => ?_)
    · replace hF := if_t c31 hF
      refine lv_iconst (v := (0 : Int32)) hx hb (dq dt_X9_readsRest 55 rfl) (by decide) ?_
      cases hF
      exact kRetZ hQ C rfl hw (dq dt_X9_readsRest 56 rfl)
    · replace hF := if_f c31 hF
      refine lv_aload_n hx hb (dq dt_X9_readsRest 35 rfl) rfl (lv_at hl 1 rfl) ?_
      refine lv_iconst (v := (1 : Int32)) hx hb (dq dt_X9_readsRest 36 rfl) (by decide) ?_
      refine lv_iconst (v := (1 : Int32)) hx hb (dq dt_X9_readsRest 37 rfl) (by decide) ?_
      refine lv_bipush (v := (99 : Int32)) hx hb (dq dt_X9_readsRest 38 rfl) (by decide) ?_
      obtain ⟨v32, g33, g34, g35, g36, hr37, hF⟩ := zc5_ hF
      refine kCallV (ws2 := [(a_m, .inr (9, [.ref a_m_row, .ref a_m_isKept, .ref a_m_text, .int m_length, .ref a_m_read, .int m_readMany, .int m_yards, .ref a_m_tides, .ref a_m_seeps, .int m_seepMany, .ref a_m_kinds, .ref a_m_paces, .ref a_m_ears, .int m_many, .int g33, .int g34, .int g35, .int m_readYards, .int m_readSeeps, .int m_readChildren, .ref a_m_hearers, .ref a_m_chosen, .int m_chosenMany, .ref a_m_dues, .ref a_m_sights, .int m_seenMany])), (a_m_text, .inl (cI, 200, .inl m_text)), (a_m_read, .inl (cI, 60, .inl g36))]) C hw (A_X9_reads l D cB cI cJ cZ ad a_m a_m_row a_m_isKept a_m_text a_m_read a_m_tides a_m_seeps a_m_kinds a_m_paces a_m_ears a_m_hearers a_m_chosen a_m_dues a_m_sights m_length m_readMany m_yards m_seepMany m_many g26 g27 g28 m_readYards m_readSeeps m_readChildren m_chosenMany m_seenMany m_text g29 (1 : Int32) (1 : Int32) (99 : Int32) v32 g33 g34 g35 g36 hr37) (cwV 3 C.2.2.2.2.2.2.1 (w0_V0 q4_235 q4_232 q4_234 (ws0 28 rfl) q1_10) rfl rfl rfl kd_X9_reads ⟨Nat.le_of_ble_eq_true rfl, Nat.le_of_ble_eq_true rfl⟩) [0, 1, 2] rfl rfl rfl rfl 0 9 rfl rfl hl.1 rfl rfl rfl (Nat.le_of_ble_eq_true rfl) ⟨Nat.le_of_ble_eq_true rfl, Nat.le_of_ble_eq_true rfl⟩ (dq dt_X9_readsRest 39 rfl) (fun H locs hw => ?_)
      refine lv_if_eq (tgt := 144) hx hb (dq dt_X9_readsRest 40 rfl) (by decide) (fun c38 => ?_) (fun c38 => ?_)
      · replace hF := if_t c38 hF
        refine lv_iconst (v := (0 : Int32)) hx hb (dq dt_X9_readsRest 55 rfl) (by decide) ?_
        cases hF
        exact kRetZ hQ C rfl hw (dq dt_X9_readsRest 56 rfl)
      · replace hF := if_f c38 hF
        refine lv_aload_n hx hb (dq dt_X9_readsRest 41 rfl) rfl (lv_at hl 1 rfl) ?_
        refine lv_iconst (v := (2 : Int32)) hx hb (dq dt_X9_readsRest 42 rfl) (by decide) ?_
        refine lv_iconst (v := (0 : Int32)) hx hb (dq dt_X9_readsRest 43 rfl) (by decide) ?_
        refine lv_bipush (v := (9 : Int32)) hx hb (dq dt_X9_readsRest 44 rfl) (by decide) ?_
        obtain ⟨v39, g40, g41, g42, g43, hr44, hF⟩ := zc5_ hF
        refine kCallV (ws2 := [(a_m, .inr (9, [.ref a_m_row, .ref a_m_isKept, .ref a_m_text, .int m_length, .ref a_m_read, .int m_readMany, .int m_yards, .ref a_m_tides, .ref a_m_seeps, .int m_seepMany, .ref a_m_kinds, .ref a_m_paces, .ref a_m_ears, .int m_many, .int g40, .int g41, .int g42, .int m_readYards, .int m_readSeeps, .int m_readChildren, .ref a_m_hearers, .ref a_m_chosen, .int m_chosenMany, .ref a_m_dues, .ref a_m_sights, .int m_seenMany])), (a_m_text, .inl (cI, 200, .inl m_text)), (a_m_read, .inl (cI, 60, .inl g43))]) C hw (A_X9_reads l D cB cI cJ cZ ad a_m a_m_row a_m_isKept a_m_text a_m_read a_m_tides a_m_seeps a_m_kinds a_m_paces a_m_ears a_m_hearers a_m_chosen a_m_dues a_m_sights m_length m_readMany m_yards m_seepMany m_many g33 g34 g35 m_readYards m_readSeeps m_readChildren m_chosenMany m_seenMany m_text g36 (2 : Int32) (0 : Int32) (9 : Int32) v39 g40 g41 g42 g43 hr44) (cwV 3 C.2.2.2.2.2.2.1 (w0_V0 q4_235 q4_232 q4_234 (ws0 28 rfl) q1_10) rfl rfl rfl kd_X9_reads ⟨Nat.le_of_ble_eq_true rfl, Nat.le_of_ble_eq_true rfl⟩) [0, 1, 2] rfl rfl rfl rfl 0 9 rfl rfl hl.1 rfl rfl rfl (Nat.le_of_ble_eq_true rfl) ⟨Nat.le_of_ble_eq_true rfl, Nat.le_of_ble_eq_true rfl⟩ (dq dt_X9_readsRest 45 rfl) (fun H locs hw => ?_)
        refine lv_if_eq (tgt := 144) hx hb (dq dt_X9_readsRest 46 rfl) (by decide) (fun c45 => ?_) (fun c45 => ?_)
        · replace hF := if_t c45 hF
          refine lv_iconst (v := (0 : Int32)) hx hb (dq dt_X9_readsRest 55 rfl) (by decide) ?_
          cases hF
          exact kRetZ hQ C rfl hw (dq dt_X9_readsRest 56 rfl)
        · replace hF := if_f c45 hF
          refine lv_aload_n hx hb (dq dt_X9_readsRest 47 rfl) rfl (lv_at hl 1 rfl) ?_
          refine lv_iconst (v := (3 : Int32)) hx hb (dq dt_X9_readsRest 48 rfl) (by decide) ?_
          refine lv_iconst (v := (0 : Int32)) hx hb (dq dt_X9_readsRest 49 rfl) (by decide) ?_
          refine lv_bipush (v := (9 : Int32)) hx hb (dq dt_X9_readsRest 50 rfl) (by decide) ?_
          obtain ⟨v46, g47, g48, g49, g50, hr51, hF⟩ := zc5_ hF
          refine kCallV (ws2 := [(a_m, .inr (9, [.ref a_m_row, .ref a_m_isKept, .ref a_m_text, .int m_length, .ref a_m_read, .int m_readMany, .int m_yards, .ref a_m_tides, .ref a_m_seeps, .int m_seepMany, .ref a_m_kinds, .ref a_m_paces, .ref a_m_ears, .int m_many, .int g47, .int g48, .int g49, .int m_readYards, .int m_readSeeps, .int m_readChildren, .ref a_m_hearers, .ref a_m_chosen, .int m_chosenMany, .ref a_m_dues, .ref a_m_sights, .int m_seenMany])), (a_m_text, .inl (cI, 200, .inl m_text)), (a_m_read, .inl (cI, 60, .inl g50))]) C hw (A_X9_reads l D cB cI cJ cZ ad a_m a_m_row a_m_isKept a_m_text a_m_read a_m_tides a_m_seeps a_m_kinds a_m_paces a_m_ears a_m_hearers a_m_chosen a_m_dues a_m_sights m_length m_readMany m_yards m_seepMany m_many g40 g41 g42 m_readYards m_readSeeps m_readChildren m_chosenMany m_seenMany m_text g43 (3 : Int32) (0 : Int32) (9 : Int32) v46 g47 g48 g49 g50 hr51) (cwV 3 C.2.2.2.2.2.2.1 (w0_V0 q4_235 q4_232 q4_234 (ws0 28 rfl) q1_10) rfl rfl rfl kd_X9_reads ⟨Nat.le_of_ble_eq_true rfl, Nat.le_of_ble_eq_true rfl⟩) [0, 1, 2] rfl rfl rfl rfl 0 9 rfl rfl hl.1 rfl rfl rfl (Nat.le_of_ble_eq_true rfl) ⟨Nat.le_of_ble_eq_true rfl, Nat.le_of_ble_eq_true rfl⟩ (dq dt_X9_readsRest 51 rfl) (fun H locs hw => ?_)
          refine lv_if_eq (tgt := 144) hx hb (dq dt_X9_readsRest 52 rfl) (by decide) (fun c52 => ?_) (fun c52 => ?_)
          · replace hF := if_t c52 hF
            refine lv_iconst (v := (0 : Int32)) hx hb (dq dt_X9_readsRest 55 rfl) (by decide) ?_
            cases hF
            exact kRetZ hQ C rfl hw (dq dt_X9_readsRest 56 rfl)
          · replace hF := if_f c52 hF
            refine lv_iconst (v := (1 : Int32)) hx hb (dq dt_X9_readsRest 53 rfl) (by decide) ?_
            refine lv_goto (tgt := 145) hx hb (dq dt_X9_readsRest 54 rfl) (by decide) ?_
            cases hF
            exact kRetZ hQ C rfl hw (dq dt_X9_readsRest 56 rfl)
  replace hF := if_f c24 hF
  by_cases c53 : p1 = (3 : Int32)
  · replace hF := if_t c53 hF
    refine lv_tableIn (lo := 0) (hi := 8) (tgt := 148) hx hb (dq dt_X9_readsRest 6 rfl) (by rw [c53]; decide) (by rw [c53]; decide) (by rw [c53]; rfl) (by decide) ?_
    refine lv_aload_n hx hb (dq dt_X9_readsRest 59 rfl) rfl (lv_at hl 1 rfl) ?_
    refine lv_iconst (v := (0 : Int32)) hx hb (dq dt_X9_readsRest 60 rfl) (by decide) ?_
    refine lv_iconst (v := (0 : Int32)) hx hb (dq dt_X9_readsRest 61 rfl) (by decide) ?_
    refine lv_iload_n hx hb (dq dt_X9_readsRest 62 rfl) rfl (lv_at hl 0 rfl) ?_
    obtain ⟨v54, g55, g56, g57, g58, hr59, hF⟩ := zc5_ hF
    refine kCallV (ws2 := [(a_m, .inr (9, [.ref a_m_row, .ref a_m_isKept, .ref a_m_text, .int m_length, .ref a_m_read, .int m_readMany, .int m_yards, .ref a_m_tides, .ref a_m_seeps, .int m_seepMany, .ref a_m_kinds, .ref a_m_paces, .ref a_m_ears, .int m_many, .int g55, .int g56, .int g57, .int m_readYards, .int m_readSeeps, .int m_readChildren, .ref a_m_hearers, .ref a_m_chosen, .int m_chosenMany, .ref a_m_dues, .ref a_m_sights, .int m_seenMany])), (a_m_text, .inl (cI, 200, .inl m_text)), (a_m_read, .inl (cI, 60, .inl g58))]) C hw (A_X9_reads l D cB cI cJ cZ ad a_m a_m_row a_m_isKept a_m_text a_m_read a_m_tides a_m_seeps a_m_kinds a_m_paces a_m_ears a_m_hearers a_m_chosen a_m_dues a_m_sights m_length m_readMany m_yards m_seepMany m_many m_at m_place m_end m_readYards m_readSeeps m_readChildren m_chosenMany m_seenMany m_text m_read (0 : Int32) (0 : Int32) v1 v54 g55 g56 g57 g58 hr59) (cwV 3 C.2.2.2.2.2.2.1 (w0_V0 q4_235 q4_232 q4_234 (ws0 28 rfl) q1_10) rfl rfl rfl kd_X9_reads ⟨Nat.le_of_ble_eq_true rfl, Nat.le_of_ble_eq_true rfl⟩) [0, 1, 2] rfl rfl rfl rfl 0 9 rfl rfl hl.1 rfl rfl rfl (Nat.le_of_ble_eq_true rfl) ⟨Nat.le_of_ble_eq_true rfl, Nat.le_of_ble_eq_true rfl⟩ (dq dt_X9_readsRest 63 rfl) (fun H locs hw => ?_)
    refine lv_if_eq (tgt := 183) hx hb (dq dt_X9_readsRest 64 rfl) (by decide) (fun c60 => ?_) (fun c60 => ?_)
    · replace hF := if_t c60 hF
      refine lv_iconst (v := (0 : Int32)) hx hb (dq dt_X9_readsRest 79 rfl) (by decide) ?_
      cases hF
      exact kRetZ hQ C rfl hw (dq dt_X9_readsRest 80 rfl)
    · replace hF := if_f c60 hF
      refine lv_aload_n hx hb (dq dt_X9_readsRest 65 rfl) rfl (lv_at hl 1 rfl) ?_
      refine lv_iconst (v := (1 : Int32)) hx hb (dq dt_X9_readsRest 66 rfl) (by decide) ?_
      refine lv_iconst (v := (0 : Int32)) hx hb (dq dt_X9_readsRest 67 rfl) (by decide) ?_
      refine lv_iconst (v := (3 : Int32)) hx hb (dq dt_X9_readsRest 68 rfl) (by decide) ?_
      obtain ⟨v61, g62, g63, g64, g65, hr66, hF⟩ := zc5_ hF
      refine kCallV (ws2 := [(a_m, .inr (9, [.ref a_m_row, .ref a_m_isKept, .ref a_m_text, .int m_length, .ref a_m_read, .int m_readMany, .int m_yards, .ref a_m_tides, .ref a_m_seeps, .int m_seepMany, .ref a_m_kinds, .ref a_m_paces, .ref a_m_ears, .int m_many, .int g62, .int g63, .int g64, .int m_readYards, .int m_readSeeps, .int m_readChildren, .ref a_m_hearers, .ref a_m_chosen, .int m_chosenMany, .ref a_m_dues, .ref a_m_sights, .int m_seenMany])), (a_m_text, .inl (cI, 200, .inl m_text)), (a_m_read, .inl (cI, 60, .inl g65))]) C hw (A_X9_reads l D cB cI cJ cZ ad a_m a_m_row a_m_isKept a_m_text a_m_read a_m_tides a_m_seeps a_m_kinds a_m_paces a_m_ears a_m_hearers a_m_chosen a_m_dues a_m_sights m_length m_readMany m_yards m_seepMany m_many g55 g56 g57 m_readYards m_readSeeps m_readChildren m_chosenMany m_seenMany m_text g58 (1 : Int32) (0 : Int32) (3 : Int32) v61 g62 g63 g64 g65 hr66) (cwV 3 C.2.2.2.2.2.2.1 (w0_V0 q4_235 q4_232 q4_234 (ws0 28 rfl) q1_10) rfl rfl rfl kd_X9_reads ⟨Nat.le_of_ble_eq_true rfl, Nat.le_of_ble_eq_true rfl⟩) [0, 1, 2] rfl rfl rfl rfl 0 9 rfl rfl hl.1 rfl rfl rfl (Nat.le_of_ble_eq_true rfl) ⟨Nat.le_of_ble_eq_true rfl, Nat.le_of_ble_eq_true rfl⟩ (dq dt_X9_readsRest 69 rfl) (fun H locs hw => ?_)
      refine lv_if_eq (tgt := 183) hx hb (dq dt_X9_readsRest 70 rfl) (by decide) (fun c67 => ?_) (fun c67 => ?_)
      · replace hF := if_t c67 hF
        refine lv_iconst (v := (0 : Int32)) hx hb (dq dt_X9_readsRest 79 rfl) (by decide) ?_
        cases hF
        exact kRetZ hQ C rfl hw (dq dt_X9_readsRest 80 rfl)
      · replace hF := if_f c67 hF
        refine lv_aload_n hx hb (dq dt_X9_readsRest 71 rfl) rfl (lv_at hl 1 rfl) ?_
        refine lv_iconst (v := (2 : Int32)) hx hb (dq dt_X9_readsRest 72 rfl) (by decide) ?_
        refine lv_iconst (v := (0 : Int32)) hx hb (dq dt_X9_readsRest 73 rfl) (by decide) ?_
        refine lv_bipush (v := (9 : Int32)) hx hb (dq dt_X9_readsRest 74 rfl) (by decide) ?_
        obtain ⟨v68, g69, g70, g71, g72, hr73, hF⟩ := zc5_ hF
        refine kCallV (ws2 := [(a_m, .inr (9, [.ref a_m_row, .ref a_m_isKept, .ref a_m_text, .int m_length, .ref a_m_read, .int m_readMany, .int m_yards, .ref a_m_tides, .ref a_m_seeps, .int m_seepMany, .ref a_m_kinds, .ref a_m_paces, .ref a_m_ears, .int m_many, .int g69, .int g70, .int g71, .int m_readYards, .int m_readSeeps, .int m_readChildren, .ref a_m_hearers, .ref a_m_chosen, .int m_chosenMany, .ref a_m_dues, .ref a_m_sights, .int m_seenMany])), (a_m_text, .inl (cI, 200, .inl m_text)), (a_m_read, .inl (cI, 60, .inl g72))]) C hw (A_X9_reads l D cB cI cJ cZ ad a_m a_m_row a_m_isKept a_m_text a_m_read a_m_tides a_m_seeps a_m_kinds a_m_paces a_m_ears a_m_hearers a_m_chosen a_m_dues a_m_sights m_length m_readMany m_yards m_seepMany m_many g62 g63 g64 m_readYards m_readSeeps m_readChildren m_chosenMany m_seenMany m_text g65 (2 : Int32) (0 : Int32) (9 : Int32) v68 g69 g70 g71 g72 hr73) (cwV 3 C.2.2.2.2.2.2.1 (w0_V0 q4_235 q4_232 q4_234 (ws0 28 rfl) q1_10) rfl rfl rfl kd_X9_reads ⟨Nat.le_of_ble_eq_true rfl, Nat.le_of_ble_eq_true rfl⟩) [0, 1, 2] rfl rfl rfl rfl 0 9 rfl rfl hl.1 rfl rfl rfl (Nat.le_of_ble_eq_true rfl) ⟨Nat.le_of_ble_eq_true rfl, Nat.le_of_ble_eq_true rfl⟩ (dq dt_X9_readsRest 75 rfl) (fun H locs hw => ?_)
        refine lv_if_eq (tgt := 183) hx hb (dq dt_X9_readsRest 76 rfl) (by decide) (fun c74 => ?_) (fun c74 => ?_)
        · replace hF := if_t c74 hF
          refine lv_iconst (v := (0 : Int32)) hx hb (dq dt_X9_readsRest 79 rfl) (by decide) ?_
          cases hF
          exact kRetZ hQ C rfl hw (dq dt_X9_readsRest 80 rfl)
        · replace hF := if_f c74 hF
          refine lv_iconst (v := (1 : Int32)) hx hb (dq dt_X9_readsRest 77 rfl) (by decide) ?_
          refine lv_goto (tgt := 184) hx hb (dq dt_X9_readsRest 78 rfl) (by decide) ?_
          cases hF
          exact kRetZ hQ C rfl hw (dq dt_X9_readsRest 80 rfl)
  replace hF := if_f c53 hF
  by_cases c75 : p1 = (4 : Int32)
  · replace hF := if_t c75 hF
    refine lv_tableIn (lo := 0) (hi := 8) (tgt := 148) hx hb (dq dt_X9_readsRest 6 rfl) (by rw [c75]; decide) (by rw [c75]; decide) (by rw [c75]; rfl) (by decide) ?_
    refine lv_aload_n hx hb (dq dt_X9_readsRest 59 rfl) rfl (lv_at hl 1 rfl) ?_
    refine lv_iconst (v := (0 : Int32)) hx hb (dq dt_X9_readsRest 60 rfl) (by decide) ?_
    refine lv_iconst (v := (0 : Int32)) hx hb (dq dt_X9_readsRest 61 rfl) (by decide) ?_
    refine lv_iload_n hx hb (dq dt_X9_readsRest 62 rfl) rfl (lv_at hl 0 rfl) ?_
    obtain ⟨v76, g77, g78, g79, g80, hr81, hF⟩ := zc5_ hF
    refine kCallV (ws2 := [(a_m, .inr (9, [.ref a_m_row, .ref a_m_isKept, .ref a_m_text, .int m_length, .ref a_m_read, .int m_readMany, .int m_yards, .ref a_m_tides, .ref a_m_seeps, .int m_seepMany, .ref a_m_kinds, .ref a_m_paces, .ref a_m_ears, .int m_many, .int g77, .int g78, .int g79, .int m_readYards, .int m_readSeeps, .int m_readChildren, .ref a_m_hearers, .ref a_m_chosen, .int m_chosenMany, .ref a_m_dues, .ref a_m_sights, .int m_seenMany])), (a_m_text, .inl (cI, 200, .inl m_text)), (a_m_read, .inl (cI, 60, .inl g80))]) C hw (A_X9_reads l D cB cI cJ cZ ad a_m a_m_row a_m_isKept a_m_text a_m_read a_m_tides a_m_seeps a_m_kinds a_m_paces a_m_ears a_m_hearers a_m_chosen a_m_dues a_m_sights m_length m_readMany m_yards m_seepMany m_many m_at m_place m_end m_readYards m_readSeeps m_readChildren m_chosenMany m_seenMany m_text m_read (0 : Int32) (0 : Int32) v1 v76 g77 g78 g79 g80 hr81) (cwV 3 C.2.2.2.2.2.2.1 (w0_V0 q4_235 q4_232 q4_234 (ws0 28 rfl) q1_10) rfl rfl rfl kd_X9_reads ⟨Nat.le_of_ble_eq_true rfl, Nat.le_of_ble_eq_true rfl⟩) [0, 1, 2] rfl rfl rfl rfl 0 9 rfl rfl hl.1 rfl rfl rfl (Nat.le_of_ble_eq_true rfl) ⟨Nat.le_of_ble_eq_true rfl, Nat.le_of_ble_eq_true rfl⟩ (dq dt_X9_readsRest 63 rfl) (fun H locs hw => ?_)
    refine lv_if_eq (tgt := 183) hx hb (dq dt_X9_readsRest 64 rfl) (by decide) (fun c82 => ?_) (fun c82 => ?_)
    · replace hF := if_t c82 hF
      refine lv_iconst (v := (0 : Int32)) hx hb (dq dt_X9_readsRest 79 rfl) (by decide) ?_
      cases hF
      exact kRetZ hQ C rfl hw (dq dt_X9_readsRest 80 rfl)
    · replace hF := if_f c82 hF
      refine lv_aload_n hx hb (dq dt_X9_readsRest 65 rfl) rfl (lv_at hl 1 rfl) ?_
      refine lv_iconst (v := (1 : Int32)) hx hb (dq dt_X9_readsRest 66 rfl) (by decide) ?_
      refine lv_iconst (v := (0 : Int32)) hx hb (dq dt_X9_readsRest 67 rfl) (by decide) ?_
      refine lv_iconst (v := (3 : Int32)) hx hb (dq dt_X9_readsRest 68 rfl) (by decide) ?_
      obtain ⟨v83, g84, g85, g86, g87, hr88, hF⟩ := zc5_ hF
      refine kCallV (ws2 := [(a_m, .inr (9, [.ref a_m_row, .ref a_m_isKept, .ref a_m_text, .int m_length, .ref a_m_read, .int m_readMany, .int m_yards, .ref a_m_tides, .ref a_m_seeps, .int m_seepMany, .ref a_m_kinds, .ref a_m_paces, .ref a_m_ears, .int m_many, .int g84, .int g85, .int g86, .int m_readYards, .int m_readSeeps, .int m_readChildren, .ref a_m_hearers, .ref a_m_chosen, .int m_chosenMany, .ref a_m_dues, .ref a_m_sights, .int m_seenMany])), (a_m_text, .inl (cI, 200, .inl m_text)), (a_m_read, .inl (cI, 60, .inl g87))]) C hw (A_X9_reads l D cB cI cJ cZ ad a_m a_m_row a_m_isKept a_m_text a_m_read a_m_tides a_m_seeps a_m_kinds a_m_paces a_m_ears a_m_hearers a_m_chosen a_m_dues a_m_sights m_length m_readMany m_yards m_seepMany m_many g77 g78 g79 m_readYards m_readSeeps m_readChildren m_chosenMany m_seenMany m_text g80 (1 : Int32) (0 : Int32) (3 : Int32) v83 g84 g85 g86 g87 hr88) (cwV 3 C.2.2.2.2.2.2.1 (w0_V0 q4_235 q4_232 q4_234 (ws0 28 rfl) q1_10) rfl rfl rfl kd_X9_reads ⟨Nat.le_of_ble_eq_true rfl, Nat.le_of_ble_eq_true rfl⟩) [0, 1, 2] rfl rfl rfl rfl 0 9 rfl rfl hl.1 rfl rfl rfl (Nat.le_of_ble_eq_true rfl) ⟨Nat.le_of_ble_eq_true rfl, Nat.le_of_ble_eq_true rfl⟩ (dq dt_X9_readsRest 69 rfl) (fun H locs hw => ?_)
      refine lv_if_eq (tgt := 183) hx hb (dq dt_X9_readsRest 70 rfl) (by decide) (fun c89 => ?_) (fun c89 => ?_)
      · replace hF := if_t c89 hF
        refine lv_iconst (v := (0 : Int32)) hx hb (dq dt_X9_readsRest 79 rfl) (by decide) ?_
        cases hF
        exact kRetZ hQ C rfl hw (dq dt_X9_readsRest 80 rfl)
      · replace hF := if_f c89 hF
        refine lv_aload_n hx hb (dq dt_X9_readsRest 71 rfl) rfl (lv_at hl 1 rfl) ?_
        refine lv_iconst (v := (2 : Int32)) hx hb (dq dt_X9_readsRest 72 rfl) (by decide) ?_
        refine lv_iconst (v := (0 : Int32)) hx hb (dq dt_X9_readsRest 73 rfl) (by decide) ?_
        refine lv_bipush (v := (9 : Int32)) hx hb (dq dt_X9_readsRest 74 rfl) (by decide) ?_
        obtain ⟨v90, g91, g92, g93, g94, hr95, hF⟩ := zc5_ hF
        refine kCallV (ws2 := [(a_m, .inr (9, [.ref a_m_row, .ref a_m_isKept, .ref a_m_text, .int m_length, .ref a_m_read, .int m_readMany, .int m_yards, .ref a_m_tides, .ref a_m_seeps, .int m_seepMany, .ref a_m_kinds, .ref a_m_paces, .ref a_m_ears, .int m_many, .int g91, .int g92, .int g93, .int m_readYards, .int m_readSeeps, .int m_readChildren, .ref a_m_hearers, .ref a_m_chosen, .int m_chosenMany, .ref a_m_dues, .ref a_m_sights, .int m_seenMany])), (a_m_text, .inl (cI, 200, .inl m_text)), (a_m_read, .inl (cI, 60, .inl g94))]) C hw (A_X9_reads l D cB cI cJ cZ ad a_m a_m_row a_m_isKept a_m_text a_m_read a_m_tides a_m_seeps a_m_kinds a_m_paces a_m_ears a_m_hearers a_m_chosen a_m_dues a_m_sights m_length m_readMany m_yards m_seepMany m_many g84 g85 g86 m_readYards m_readSeeps m_readChildren m_chosenMany m_seenMany m_text g87 (2 : Int32) (0 : Int32) (9 : Int32) v90 g91 g92 g93 g94 hr95) (cwV 3 C.2.2.2.2.2.2.1 (w0_V0 q4_235 q4_232 q4_234 (ws0 28 rfl) q1_10) rfl rfl rfl kd_X9_reads ⟨Nat.le_of_ble_eq_true rfl, Nat.le_of_ble_eq_true rfl⟩) [0, 1, 2] rfl rfl rfl rfl 0 9 rfl rfl hl.1 rfl rfl rfl (Nat.le_of_ble_eq_true rfl) ⟨Nat.le_of_ble_eq_true rfl, Nat.le_of_ble_eq_true rfl⟩ (dq dt_X9_readsRest 75 rfl) (fun H locs hw => ?_)
        refine lv_if_eq (tgt := 183) hx hb (dq dt_X9_readsRest 76 rfl) (by decide) (fun c96 => ?_) (fun c96 => ?_)
        · replace hF := if_t c96 hF
          refine lv_iconst (v := (0 : Int32)) hx hb (dq dt_X9_readsRest 79 rfl) (by decide) ?_
          cases hF
          exact kRetZ hQ C rfl hw (dq dt_X9_readsRest 80 rfl)
        · replace hF := if_f c96 hF
          refine lv_iconst (v := (1 : Int32)) hx hb (dq dt_X9_readsRest 77 rfl) (by decide) ?_
          refine lv_goto (tgt := 184) hx hb (dq dt_X9_readsRest 78 rfl) (by decide) ?_
          cases hF
          exact kRetZ hQ C rfl hw (dq dt_X9_readsRest 80 rfl)
  replace hF := if_f c75 hF
  by_cases c97 : p1 = (5 : Int32)
  · replace hF := if_t c97 hF
    refine lv_tableIn (lo := 0) (hi := 8) (tgt := 148) hx hb (dq dt_X9_readsRest 6 rfl) (by rw [c97]; decide) (by rw [c97]; decide) (by rw [c97]; rfl) (by decide) ?_
    refine lv_aload_n hx hb (dq dt_X9_readsRest 59 rfl) rfl (lv_at hl 1 rfl) ?_
    refine lv_iconst (v := (0 : Int32)) hx hb (dq dt_X9_readsRest 60 rfl) (by decide) ?_
    refine lv_iconst (v := (0 : Int32)) hx hb (dq dt_X9_readsRest 61 rfl) (by decide) ?_
    refine lv_iload_n hx hb (dq dt_X9_readsRest 62 rfl) rfl (lv_at hl 0 rfl) ?_
    obtain ⟨v98, g99, g100, g101, g102, hr103, hF⟩ := zc5_ hF
    refine kCallV (ws2 := [(a_m, .inr (9, [.ref a_m_row, .ref a_m_isKept, .ref a_m_text, .int m_length, .ref a_m_read, .int m_readMany, .int m_yards, .ref a_m_tides, .ref a_m_seeps, .int m_seepMany, .ref a_m_kinds, .ref a_m_paces, .ref a_m_ears, .int m_many, .int g99, .int g100, .int g101, .int m_readYards, .int m_readSeeps, .int m_readChildren, .ref a_m_hearers, .ref a_m_chosen, .int m_chosenMany, .ref a_m_dues, .ref a_m_sights, .int m_seenMany])), (a_m_text, .inl (cI, 200, .inl m_text)), (a_m_read, .inl (cI, 60, .inl g102))]) C hw (A_X9_reads l D cB cI cJ cZ ad a_m a_m_row a_m_isKept a_m_text a_m_read a_m_tides a_m_seeps a_m_kinds a_m_paces a_m_ears a_m_hearers a_m_chosen a_m_dues a_m_sights m_length m_readMany m_yards m_seepMany m_many m_at m_place m_end m_readYards m_readSeeps m_readChildren m_chosenMany m_seenMany m_text m_read (0 : Int32) (0 : Int32) v1 v98 g99 g100 g101 g102 hr103) (cwV 3 C.2.2.2.2.2.2.1 (w0_V0 q4_235 q4_232 q4_234 (ws0 28 rfl) q1_10) rfl rfl rfl kd_X9_reads ⟨Nat.le_of_ble_eq_true rfl, Nat.le_of_ble_eq_true rfl⟩) [0, 1, 2] rfl rfl rfl rfl 0 9 rfl rfl hl.1 rfl rfl rfl (Nat.le_of_ble_eq_true rfl) ⟨Nat.le_of_ble_eq_true rfl, Nat.le_of_ble_eq_true rfl⟩ (dq dt_X9_readsRest 63 rfl) (fun H locs hw => ?_)
    refine lv_if_eq (tgt := 183) hx hb (dq dt_X9_readsRest 64 rfl) (by decide) (fun c104 => ?_) (fun c104 => ?_)
    · replace hF := if_t c104 hF
      refine lv_iconst (v := (0 : Int32)) hx hb (dq dt_X9_readsRest 79 rfl) (by decide) ?_
      cases hF
      exact kRetZ hQ C rfl hw (dq dt_X9_readsRest 80 rfl)
    · replace hF := if_f c104 hF
      refine lv_aload_n hx hb (dq dt_X9_readsRest 65 rfl) rfl (lv_at hl 1 rfl) ?_
      refine lv_iconst (v := (1 : Int32)) hx hb (dq dt_X9_readsRest 66 rfl) (by decide) ?_
      refine lv_iconst (v := (0 : Int32)) hx hb (dq dt_X9_readsRest 67 rfl) (by decide) ?_
      refine lv_iconst (v := (3 : Int32)) hx hb (dq dt_X9_readsRest 68 rfl) (by decide) ?_
      obtain ⟨v105, g106, g107, g108, g109, hr110, hF⟩ := zc5_ hF
      refine kCallV (ws2 := [(a_m, .inr (9, [.ref a_m_row, .ref a_m_isKept, .ref a_m_text, .int m_length, .ref a_m_read, .int m_readMany, .int m_yards, .ref a_m_tides, .ref a_m_seeps, .int m_seepMany, .ref a_m_kinds, .ref a_m_paces, .ref a_m_ears, .int m_many, .int g106, .int g107, .int g108, .int m_readYards, .int m_readSeeps, .int m_readChildren, .ref a_m_hearers, .ref a_m_chosen, .int m_chosenMany, .ref a_m_dues, .ref a_m_sights, .int m_seenMany])), (a_m_text, .inl (cI, 200, .inl m_text)), (a_m_read, .inl (cI, 60, .inl g109))]) C hw (A_X9_reads l D cB cI cJ cZ ad a_m a_m_row a_m_isKept a_m_text a_m_read a_m_tides a_m_seeps a_m_kinds a_m_paces a_m_ears a_m_hearers a_m_chosen a_m_dues a_m_sights m_length m_readMany m_yards m_seepMany m_many g99 g100 g101 m_readYards m_readSeeps m_readChildren m_chosenMany m_seenMany m_text g102 (1 : Int32) (0 : Int32) (3 : Int32) v105 g106 g107 g108 g109 hr110) (cwV 3 C.2.2.2.2.2.2.1 (w0_V0 q4_235 q4_232 q4_234 (ws0 28 rfl) q1_10) rfl rfl rfl kd_X9_reads ⟨Nat.le_of_ble_eq_true rfl, Nat.le_of_ble_eq_true rfl⟩) [0, 1, 2] rfl rfl rfl rfl 0 9 rfl rfl hl.1 rfl rfl rfl (Nat.le_of_ble_eq_true rfl) ⟨Nat.le_of_ble_eq_true rfl, Nat.le_of_ble_eq_true rfl⟩ (dq dt_X9_readsRest 69 rfl) (fun H locs hw => ?_)
      refine lv_if_eq (tgt := 183) hx hb (dq dt_X9_readsRest 70 rfl) (by decide) (fun c111 => ?_) (fun c111 => ?_)
      · replace hF := if_t c111 hF
        refine lv_iconst (v := (0 : Int32)) hx hb (dq dt_X9_readsRest 79 rfl) (by decide) ?_
        cases hF
        exact kRetZ hQ C rfl hw (dq dt_X9_readsRest 80 rfl)
      · replace hF := if_f c111 hF
        refine lv_aload_n hx hb (dq dt_X9_readsRest 71 rfl) rfl (lv_at hl 1 rfl) ?_
        refine lv_iconst (v := (2 : Int32)) hx hb (dq dt_X9_readsRest 72 rfl) (by decide) ?_
        refine lv_iconst (v := (0 : Int32)) hx hb (dq dt_X9_readsRest 73 rfl) (by decide) ?_
        refine lv_bipush (v := (9 : Int32)) hx hb (dq dt_X9_readsRest 74 rfl) (by decide) ?_
        obtain ⟨v112, g113, g114, g115, g116, hr117, hF⟩ := zc5_ hF
        refine kCallV (ws2 := [(a_m, .inr (9, [.ref a_m_row, .ref a_m_isKept, .ref a_m_text, .int m_length, .ref a_m_read, .int m_readMany, .int m_yards, .ref a_m_tides, .ref a_m_seeps, .int m_seepMany, .ref a_m_kinds, .ref a_m_paces, .ref a_m_ears, .int m_many, .int g113, .int g114, .int g115, .int m_readYards, .int m_readSeeps, .int m_readChildren, .ref a_m_hearers, .ref a_m_chosen, .int m_chosenMany, .ref a_m_dues, .ref a_m_sights, .int m_seenMany])), (a_m_text, .inl (cI, 200, .inl m_text)), (a_m_read, .inl (cI, 60, .inl g116))]) C hw (A_X9_reads l D cB cI cJ cZ ad a_m a_m_row a_m_isKept a_m_text a_m_read a_m_tides a_m_seeps a_m_kinds a_m_paces a_m_ears a_m_hearers a_m_chosen a_m_dues a_m_sights m_length m_readMany m_yards m_seepMany m_many g106 g107 g108 m_readYards m_readSeeps m_readChildren m_chosenMany m_seenMany m_text g109 (2 : Int32) (0 : Int32) (9 : Int32) v112 g113 g114 g115 g116 hr117) (cwV 3 C.2.2.2.2.2.2.1 (w0_V0 q4_235 q4_232 q4_234 (ws0 28 rfl) q1_10) rfl rfl rfl kd_X9_reads ⟨Nat.le_of_ble_eq_true rfl, Nat.le_of_ble_eq_true rfl⟩) [0, 1, 2] rfl rfl rfl rfl 0 9 rfl rfl hl.1 rfl rfl rfl (Nat.le_of_ble_eq_true rfl) ⟨Nat.le_of_ble_eq_true rfl, Nat.le_of_ble_eq_true rfl⟩ (dq dt_X9_readsRest 75 rfl) (fun H locs hw => ?_)
        refine lv_if_eq (tgt := 183) hx hb (dq dt_X9_readsRest 76 rfl) (by decide) (fun c118 => ?_) (fun c118 => ?_)
        · replace hF := if_t c118 hF
          refine lv_iconst (v := (0 : Int32)) hx hb (dq dt_X9_readsRest 79 rfl) (by decide) ?_
          cases hF
          exact kRetZ hQ C rfl hw (dq dt_X9_readsRest 80 rfl)
        · replace hF := if_f c118 hF
          refine lv_iconst (v := (1 : Int32)) hx hb (dq dt_X9_readsRest 77 rfl) (by decide) ?_
          refine lv_goto (tgt := 184) hx hb (dq dt_X9_readsRest 78 rfl) (by decide) ?_
          cases hF
          exact kRetZ hQ C rfl hw (dq dt_X9_readsRest 80 rfl)
  replace hF := if_f c97 hF
  by_cases c119 : p1 = (6 : Int32)
  · replace hF := if_t c119 hF
    refine lv_tableIn (lo := 0) (hi := 8) (tgt := 148) hx hb (dq dt_X9_readsRest 6 rfl) (by rw [c119]; decide) (by rw [c119]; decide) (by rw [c119]; rfl) (by decide) ?_
    refine lv_aload_n hx hb (dq dt_X9_readsRest 59 rfl) rfl (lv_at hl 1 rfl) ?_
    refine lv_iconst (v := (0 : Int32)) hx hb (dq dt_X9_readsRest 60 rfl) (by decide) ?_
    refine lv_iconst (v := (0 : Int32)) hx hb (dq dt_X9_readsRest 61 rfl) (by decide) ?_
    refine lv_iload_n hx hb (dq dt_X9_readsRest 62 rfl) rfl (lv_at hl 0 rfl) ?_
    obtain ⟨v120, g121, g122, g123, g124, hr125, hF⟩ := zc5_ hF
    refine kCallV (ws2 := [(a_m, .inr (9, [.ref a_m_row, .ref a_m_isKept, .ref a_m_text, .int m_length, .ref a_m_read, .int m_readMany, .int m_yards, .ref a_m_tides, .ref a_m_seeps, .int m_seepMany, .ref a_m_kinds, .ref a_m_paces, .ref a_m_ears, .int m_many, .int g121, .int g122, .int g123, .int m_readYards, .int m_readSeeps, .int m_readChildren, .ref a_m_hearers, .ref a_m_chosen, .int m_chosenMany, .ref a_m_dues, .ref a_m_sights, .int m_seenMany])), (a_m_text, .inl (cI, 200, .inl m_text)), (a_m_read, .inl (cI, 60, .inl g124))]) C hw (A_X9_reads l D cB cI cJ cZ ad a_m a_m_row a_m_isKept a_m_text a_m_read a_m_tides a_m_seeps a_m_kinds a_m_paces a_m_ears a_m_hearers a_m_chosen a_m_dues a_m_sights m_length m_readMany m_yards m_seepMany m_many m_at m_place m_end m_readYards m_readSeeps m_readChildren m_chosenMany m_seenMany m_text m_read (0 : Int32) (0 : Int32) v1 v120 g121 g122 g123 g124 hr125) (cwV 3 C.2.2.2.2.2.2.1 (w0_V0 q4_235 q4_232 q4_234 (ws0 28 rfl) q1_10) rfl rfl rfl kd_X9_reads ⟨Nat.le_of_ble_eq_true rfl, Nat.le_of_ble_eq_true rfl⟩) [0, 1, 2] rfl rfl rfl rfl 0 9 rfl rfl hl.1 rfl rfl rfl (Nat.le_of_ble_eq_true rfl) ⟨Nat.le_of_ble_eq_true rfl, Nat.le_of_ble_eq_true rfl⟩ (dq dt_X9_readsRest 63 rfl) (fun H locs hw => ?_)
    refine lv_if_eq (tgt := 183) hx hb (dq dt_X9_readsRest 64 rfl) (by decide) (fun c126 => ?_) (fun c126 => ?_)
    · replace hF := if_t c126 hF
      refine lv_iconst (v := (0 : Int32)) hx hb (dq dt_X9_readsRest 79 rfl) (by decide) ?_
      cases hF
      exact kRetZ hQ C rfl hw (dq dt_X9_readsRest 80 rfl)
    · replace hF := if_f c126 hF
      refine lv_aload_n hx hb (dq dt_X9_readsRest 65 rfl) rfl (lv_at hl 1 rfl) ?_
      refine lv_iconst (v := (1 : Int32)) hx hb (dq dt_X9_readsRest 66 rfl) (by decide) ?_
      refine lv_iconst (v := (0 : Int32)) hx hb (dq dt_X9_readsRest 67 rfl) (by decide) ?_
      refine lv_iconst (v := (3 : Int32)) hx hb (dq dt_X9_readsRest 68 rfl) (by decide) ?_
      obtain ⟨v127, g128, g129, g130, g131, hr132, hF⟩ := zc5_ hF
      refine kCallV (ws2 := [(a_m, .inr (9, [.ref a_m_row, .ref a_m_isKept, .ref a_m_text, .int m_length, .ref a_m_read, .int m_readMany, .int m_yards, .ref a_m_tides, .ref a_m_seeps, .int m_seepMany, .ref a_m_kinds, .ref a_m_paces, .ref a_m_ears, .int m_many, .int g128, .int g129, .int g130, .int m_readYards, .int m_readSeeps, .int m_readChildren, .ref a_m_hearers, .ref a_m_chosen, .int m_chosenMany, .ref a_m_dues, .ref a_m_sights, .int m_seenMany])), (a_m_text, .inl (cI, 200, .inl m_text)), (a_m_read, .inl (cI, 60, .inl g131))]) C hw (A_X9_reads l D cB cI cJ cZ ad a_m a_m_row a_m_isKept a_m_text a_m_read a_m_tides a_m_seeps a_m_kinds a_m_paces a_m_ears a_m_hearers a_m_chosen a_m_dues a_m_sights m_length m_readMany m_yards m_seepMany m_many g121 g122 g123 m_readYards m_readSeeps m_readChildren m_chosenMany m_seenMany m_text g124 (1 : Int32) (0 : Int32) (3 : Int32) v127 g128 g129 g130 g131 hr132) (cwV 3 C.2.2.2.2.2.2.1 (w0_V0 q4_235 q4_232 q4_234 (ws0 28 rfl) q1_10) rfl rfl rfl kd_X9_reads ⟨Nat.le_of_ble_eq_true rfl, Nat.le_of_ble_eq_true rfl⟩) [0, 1, 2] rfl rfl rfl rfl 0 9 rfl rfl hl.1 rfl rfl rfl (Nat.le_of_ble_eq_true rfl) ⟨Nat.le_of_ble_eq_true rfl, Nat.le_of_ble_eq_true rfl⟩ (dq dt_X9_readsRest 69 rfl) (fun H locs hw => ?_)
      refine lv_if_eq (tgt := 183) hx hb (dq dt_X9_readsRest 70 rfl) (by decide) (fun c133 => ?_) (fun c133 => ?_)
      · replace hF := if_t c133 hF
        refine lv_iconst (v := (0 : Int32)) hx hb (dq dt_X9_readsRest 79 rfl) (by decide) ?_
        cases hF
        exact kRetZ hQ C rfl hw (dq dt_X9_readsRest 80 rfl)
      · replace hF := if_f c133 hF
        refine lv_aload_n hx hb (dq dt_X9_readsRest 71 rfl) rfl (lv_at hl 1 rfl) ?_
        refine lv_iconst (v := (2 : Int32)) hx hb (dq dt_X9_readsRest 72 rfl) (by decide) ?_
        refine lv_iconst (v := (0 : Int32)) hx hb (dq dt_X9_readsRest 73 rfl) (by decide) ?_
        refine lv_bipush (v := (9 : Int32)) hx hb (dq dt_X9_readsRest 74 rfl) (by decide) ?_
        obtain ⟨v134, g135, g136, g137, g138, hr139, hF⟩ := zc5_ hF
        refine kCallV (ws2 := [(a_m, .inr (9, [.ref a_m_row, .ref a_m_isKept, .ref a_m_text, .int m_length, .ref a_m_read, .int m_readMany, .int m_yards, .ref a_m_tides, .ref a_m_seeps, .int m_seepMany, .ref a_m_kinds, .ref a_m_paces, .ref a_m_ears, .int m_many, .int g135, .int g136, .int g137, .int m_readYards, .int m_readSeeps, .int m_readChildren, .ref a_m_hearers, .ref a_m_chosen, .int m_chosenMany, .ref a_m_dues, .ref a_m_sights, .int m_seenMany])), (a_m_text, .inl (cI, 200, .inl m_text)), (a_m_read, .inl (cI, 60, .inl g138))]) C hw (A_X9_reads l D cB cI cJ cZ ad a_m a_m_row a_m_isKept a_m_text a_m_read a_m_tides a_m_seeps a_m_kinds a_m_paces a_m_ears a_m_hearers a_m_chosen a_m_dues a_m_sights m_length m_readMany m_yards m_seepMany m_many g128 g129 g130 m_readYards m_readSeeps m_readChildren m_chosenMany m_seenMany m_text g131 (2 : Int32) (0 : Int32) (9 : Int32) v134 g135 g136 g137 g138 hr139) (cwV 3 C.2.2.2.2.2.2.1 (w0_V0 q4_235 q4_232 q4_234 (ws0 28 rfl) q1_10) rfl rfl rfl kd_X9_reads ⟨Nat.le_of_ble_eq_true rfl, Nat.le_of_ble_eq_true rfl⟩) [0, 1, 2] rfl rfl rfl rfl 0 9 rfl rfl hl.1 rfl rfl rfl (Nat.le_of_ble_eq_true rfl) ⟨Nat.le_of_ble_eq_true rfl, Nat.le_of_ble_eq_true rfl⟩ (dq dt_X9_readsRest 75 rfl) (fun H locs hw => ?_)
        refine lv_if_eq (tgt := 183) hx hb (dq dt_X9_readsRest 76 rfl) (by decide) (fun c140 => ?_) (fun c140 => ?_)
        · replace hF := if_t c140 hF
          refine lv_iconst (v := (0 : Int32)) hx hb (dq dt_X9_readsRest 79 rfl) (by decide) ?_
          cases hF
          exact kRetZ hQ C rfl hw (dq dt_X9_readsRest 80 rfl)
        · replace hF := if_f c140 hF
          refine lv_iconst (v := (1 : Int32)) hx hb (dq dt_X9_readsRest 77 rfl) (by decide) ?_
          refine lv_goto (tgt := 184) hx hb (dq dt_X9_readsRest 78 rfl) (by decide) ?_
          cases hF
          exact kRetZ hQ C rfl hw (dq dt_X9_readsRest 80 rfl)
  replace hF := if_f c119 hF
  by_cases c141 : p1 = (7 : Int32)
  · replace hF := if_t c141 hF
    refine lv_tableIn (lo := 0) (hi := 8) (tgt := 146) hx hb (dq dt_X9_readsRest 6 rfl) (by rw [c141]; decide) (by rw [c141]; decide) (by rw [c141]; rfl) (by decide) ?_
    refine lv_iconst (v := (1 : Int32)) hx hb (dq dt_X9_readsRest 57 rfl) (by decide) ?_
    cases hF
    exact kRetZ hQ C rfl hw (dq dt_X9_readsRest 58 rfl)
  replace hF := if_f c141 hF
  by_cases c142 : p1 = (8 : Int32)
  · replace hF := if_t c142 hF
    refine lv_tableIn (lo := 0) (hi := 8) (tgt := 146) hx hb (dq dt_X9_readsRest 6 rfl) (by rw [c142]; decide) (by rw [c142]; decide) (by rw [c142]; rfl) (by decide) ?_
    refine lv_iconst (v := (1 : Int32)) hx hb (dq dt_X9_readsRest 57 rfl) (by decide) ?_
    cases hF
    exact kRetZ hQ C rfl hw (dq dt_X9_readsRest 58 rfl)
  replace hF := if_f c142 hF
  refine lv_tableOut (lo := 0) (hi := 8) (tgt := 148) hx hb (dq dt_X9_readsRest 6 rfl) (tb_out (n := 9) (by decide) (fun i hi => by match i, hi with | 0, _ => exact c2 | 1, _ => exact c9 | 2, _ => exact c24 | 3, _ => exact c53 | 4, _ => exact c75 | 5, _ => exact c97 | 6, _ => exact c119 | 7, _ => exact c141 | 8, _ => exact c142 | i + 9, hi => exact absurd hi (by omega))) (by decide) ?_
  refine lv_aload_n hx hb (dq dt_X9_readsRest 59 rfl) rfl (lv_at hl 1 rfl) ?_
  refine lv_iconst (v := (0 : Int32)) hx hb (dq dt_X9_readsRest 60 rfl) (by decide) ?_
  refine lv_iconst (v := (0 : Int32)) hx hb (dq dt_X9_readsRest 61 rfl) (by decide) ?_
  refine lv_iload_n hx hb (dq dt_X9_readsRest 62 rfl) rfl (lv_at hl 0 rfl) ?_
  obtain ⟨v143, g144, g145, g146, g147, hr148, hF⟩ := zc5_ hF
  refine kCallV (ws2 := [(a_m, .inr (9, [.ref a_m_row, .ref a_m_isKept, .ref a_m_text, .int m_length, .ref a_m_read, .int m_readMany, .int m_yards, .ref a_m_tides, .ref a_m_seeps, .int m_seepMany, .ref a_m_kinds, .ref a_m_paces, .ref a_m_ears, .int m_many, .int g144, .int g145, .int g146, .int m_readYards, .int m_readSeeps, .int m_readChildren, .ref a_m_hearers, .ref a_m_chosen, .int m_chosenMany, .ref a_m_dues, .ref a_m_sights, .int m_seenMany])), (a_m_text, .inl (cI, 200, .inl m_text)), (a_m_read, .inl (cI, 60, .inl g147))]) C hw (A_X9_reads l D cB cI cJ cZ ad a_m a_m_row a_m_isKept a_m_text a_m_read a_m_tides a_m_seeps a_m_kinds a_m_paces a_m_ears a_m_hearers a_m_chosen a_m_dues a_m_sights m_length m_readMany m_yards m_seepMany m_many m_at m_place m_end m_readYards m_readSeeps m_readChildren m_chosenMany m_seenMany m_text m_read (0 : Int32) (0 : Int32) v1 v143 g144 g145 g146 g147 hr148) (cwV 3 C.2.2.2.2.2.2.1 (w0_V0 q4_235 q4_232 q4_234 (ws0 28 rfl) q1_10) rfl rfl rfl kd_X9_reads ⟨Nat.le_of_ble_eq_true rfl, Nat.le_of_ble_eq_true rfl⟩) [0, 1, 2] rfl rfl rfl rfl 0 9 rfl rfl hl.1 rfl rfl rfl (Nat.le_of_ble_eq_true rfl) ⟨Nat.le_of_ble_eq_true rfl, Nat.le_of_ble_eq_true rfl⟩ (dq dt_X9_readsRest 63 rfl) (fun H locs hw => ?_)
  refine lv_if_eq (tgt := 183) hx hb (dq dt_X9_readsRest 64 rfl) (by decide) (fun c149 => ?_) (fun c149 => ?_)
  · replace hF := if_t c149 hF
    refine lv_iconst (v := (0 : Int32)) hx hb (dq dt_X9_readsRest 79 rfl) (by decide) ?_
    cases hF
    exact kRetZ hQ C rfl hw (dq dt_X9_readsRest 80 rfl)
  · replace hF := if_f c149 hF
    refine lv_aload_n hx hb (dq dt_X9_readsRest 65 rfl) rfl (lv_at hl 1 rfl) ?_
    refine lv_iconst (v := (1 : Int32)) hx hb (dq dt_X9_readsRest 66 rfl) (by decide) ?_
    refine lv_iconst (v := (0 : Int32)) hx hb (dq dt_X9_readsRest 67 rfl) (by decide) ?_
    refine lv_iconst (v := (3 : Int32)) hx hb (dq dt_X9_readsRest 68 rfl) (by decide) ?_
    obtain ⟨v150, g151, g152, g153, g154, hr155, hF⟩ := zc5_ hF
    refine kCallV (ws2 := [(a_m, .inr (9, [.ref a_m_row, .ref a_m_isKept, .ref a_m_text, .int m_length, .ref a_m_read, .int m_readMany, .int m_yards, .ref a_m_tides, .ref a_m_seeps, .int m_seepMany, .ref a_m_kinds, .ref a_m_paces, .ref a_m_ears, .int m_many, .int g151, .int g152, .int g153, .int m_readYards, .int m_readSeeps, .int m_readChildren, .ref a_m_hearers, .ref a_m_chosen, .int m_chosenMany, .ref a_m_dues, .ref a_m_sights, .int m_seenMany])), (a_m_text, .inl (cI, 200, .inl m_text)), (a_m_read, .inl (cI, 60, .inl g154))]) C hw (A_X9_reads l D cB cI cJ cZ ad a_m a_m_row a_m_isKept a_m_text a_m_read a_m_tides a_m_seeps a_m_kinds a_m_paces a_m_ears a_m_hearers a_m_chosen a_m_dues a_m_sights m_length m_readMany m_yards m_seepMany m_many g144 g145 g146 m_readYards m_readSeeps m_readChildren m_chosenMany m_seenMany m_text g147 (1 : Int32) (0 : Int32) (3 : Int32) v150 g151 g152 g153 g154 hr155) (cwV 3 C.2.2.2.2.2.2.1 (w0_V0 q4_235 q4_232 q4_234 (ws0 28 rfl) q1_10) rfl rfl rfl kd_X9_reads ⟨Nat.le_of_ble_eq_true rfl, Nat.le_of_ble_eq_true rfl⟩) [0, 1, 2] rfl rfl rfl rfl 0 9 rfl rfl hl.1 rfl rfl rfl (Nat.le_of_ble_eq_true rfl) ⟨Nat.le_of_ble_eq_true rfl, Nat.le_of_ble_eq_true rfl⟩ (dq dt_X9_readsRest 69 rfl) (fun H locs hw => ?_)
    refine lv_if_eq (tgt := 183) hx hb (dq dt_X9_readsRest 70 rfl) (by decide) (fun c156 => ?_) (fun c156 => ?_)
    · replace hF := if_t c156 hF
      refine lv_iconst (v := (0 : Int32)) hx hb (dq dt_X9_readsRest 79 rfl) (by decide) ?_
      cases hF
      exact kRetZ hQ C rfl hw (dq dt_X9_readsRest 80 rfl)
    · replace hF := if_f c156 hF
      refine lv_aload_n hx hb (dq dt_X9_readsRest 71 rfl) rfl (lv_at hl 1 rfl) ?_
      refine lv_iconst (v := (2 : Int32)) hx hb (dq dt_X9_readsRest 72 rfl) (by decide) ?_
      refine lv_iconst (v := (0 : Int32)) hx hb (dq dt_X9_readsRest 73 rfl) (by decide) ?_
      refine lv_bipush (v := (9 : Int32)) hx hb (dq dt_X9_readsRest 74 rfl) (by decide) ?_
      obtain ⟨v157, g158, g159, g160, g161, hr162, hF⟩ := zc5_ hF
      refine kCallV (ws2 := [(a_m, .inr (9, [.ref a_m_row, .ref a_m_isKept, .ref a_m_text, .int m_length, .ref a_m_read, .int m_readMany, .int m_yards, .ref a_m_tides, .ref a_m_seeps, .int m_seepMany, .ref a_m_kinds, .ref a_m_paces, .ref a_m_ears, .int m_many, .int g158, .int g159, .int g160, .int m_readYards, .int m_readSeeps, .int m_readChildren, .ref a_m_hearers, .ref a_m_chosen, .int m_chosenMany, .ref a_m_dues, .ref a_m_sights, .int m_seenMany])), (a_m_text, .inl (cI, 200, .inl m_text)), (a_m_read, .inl (cI, 60, .inl g161))]) C hw (A_X9_reads l D cB cI cJ cZ ad a_m a_m_row a_m_isKept a_m_text a_m_read a_m_tides a_m_seeps a_m_kinds a_m_paces a_m_ears a_m_hearers a_m_chosen a_m_dues a_m_sights m_length m_readMany m_yards m_seepMany m_many g151 g152 g153 m_readYards m_readSeeps m_readChildren m_chosenMany m_seenMany m_text g154 (2 : Int32) (0 : Int32) (9 : Int32) v157 g158 g159 g160 g161 hr162) (cwV 3 C.2.2.2.2.2.2.1 (w0_V0 q4_235 q4_232 q4_234 (ws0 28 rfl) q1_10) rfl rfl rfl kd_X9_reads ⟨Nat.le_of_ble_eq_true rfl, Nat.le_of_ble_eq_true rfl⟩) [0, 1, 2] rfl rfl rfl rfl 0 9 rfl rfl hl.1 rfl rfl rfl (Nat.le_of_ble_eq_true rfl) ⟨Nat.le_of_ble_eq_true rfl, Nat.le_of_ble_eq_true rfl⟩ (dq dt_X9_readsRest 75 rfl) (fun H locs hw => ?_)
      refine lv_if_eq (tgt := 183) hx hb (dq dt_X9_readsRest 76 rfl) (by decide) (fun c163 => ?_) (fun c163 => ?_)
      · replace hF := if_t c163 hF
        refine lv_iconst (v := (0 : Int32)) hx hb (dq dt_X9_readsRest 79 rfl) (by decide) ?_
        cases hF
        exact kRetZ hQ C rfl hw (dq dt_X9_readsRest 80 rfl)
      · replace hF := if_f c163 hF
        refine lv_iconst (v := (1 : Int32)) hx hb (dq dt_X9_readsRest 77 rfl) (by decide) ?_
        refine lv_goto (tgt := 184) hx hb (dq dt_X9_readsRest 78 rfl) (by decide) ?_
        cases hF
        exact kRetZ hQ C rfl hw (dq dt_X9_readsRest 80 rfl)
