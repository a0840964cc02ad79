def F_X9_isChildWord (p1 : Int32) : Option (Int32) :=
  zc1 (F_X9_in (p1.toInt64) (3 : Int64) (6 : Int64)) (fun v1 => ckZ v1 (some v1))
abbrev rm_X9_isChildWord : Room := { frames := 1, cells := 0, slots := 0, locals := 25 }
theorem ke_X9_isChildWord : yX9_isChildWord.cls ≠ "java/lang/invoke/MethodHandle" ∧ yX9_isChildWord.cls ≠ "java/lang/invoke/VarHandle" ∧ (parseMethodDescriptor yX9_isChildWord.desc).map (fun d => d.parameters.length) = some 1 := by decide +kernel
set_option maxRecDepth 100000 in
set_option maxHeartbeats 4000000 in
theorem A_X9_isChildWord (l : Launch) (D : va_G) (cB cI cJ cZ : ClassId) (ad : (Nat → Nat) × (Nat → Nat)) (p1 : Int32) (r : Int32) (hF : F_X9_isChildWord p1 = some r) : kM l yX9_isChildWord (Cond.code yX9_isChildWord cX9_isChildWord 1 (some .boolean) :: W0) rm_X9_isChildWord D (kT cB cI cJ cZ) ad [.int p1] [] (some (.int r)) [] := by
  unfold F_X9_isChildWord at hF
  refine kStart (lv := [(0, .int p1)]) (own := "DikeWatchModel") (plainFor_of_name (by decide)) rfl (Nat.le_of_ble_eq_true rfl) rfl ?_
  intro p e s m args below meth c A Q ls hQ C hx hb hw hl
  refine lv_iload_n hx hb (dq dt_X9_isChildWord 0 rfl) rfl (lv_at hl 0 rfl) ?_
  refine lv_i2l (v := (p1.toInt64)) hx hb (dq dt_X9_isChildWord 1 rfl) rfl ?_
  refine lv_ldc2 (v := (3 : Int64)) hx hb C.2.2.2.2.2.1 (C.2.2.2.2.2.2.1 _ q4_226) (dq dt_X9_isChildWord 2 rfl) ?_
  refine lv_ldc2 (v := (6 : Int64)) hx hb C.2.2.2.2.2.1 (C.2.2.2.2.2.2.1 _ q4_227) (dq dt_X9_isChildWord 3 rfl) ?_
  obtain ⟨v1, hr2, hF⟩ := zc1_ hF
  refine kCallSP C hw (A_X9_in l D cB cI cJ cZ ad (p1.toInt64) (3 : Int64) (6 : Int64) v1 hr2) (va_cwS 3 C.2.2.2.2.2.2.1 (w0_S0 q4_182 q4_180 q4_181 q1_10) rfl rfl rfl ke_X9_in ⟨Nat.le_of_ble_eq_true rfl, Nat.le_of_ble_eq_true rfl⟩) hl.1 rfl rfl rfl (Nat.le_of_ble_eq_true rfl) ⟨Nat.le_of_ble_eq_true rfl, Nat.le_of_ble_eq_true rfl⟩ (dq dt_X9_isChildWord 4 rfl) (fun H locs hw => ?_)
  obtain ⟨hn, hF⟩ := ckZ_ hF
  cases hF
  exact kRetZ hQ C hn hw (dq dt_X9_isChildWord 5 rfl)
def F_X9_readsLine (m_length : Int32) (m_readMany : Int32) (m_at : Int32) (m_place : Int32) (m_end : Int32) (m_readYards : Int32) (m_readSeeps : Int32) (m_readChildren : Int32) (m_text : Nat → Int32) (m_read : Nat → Int32) : Option (Int32 × Int32 × Int32 × Int32 × Int32 × Int32 × Int32 × Int32 × (Nat → Int32)) :=
  zc1 (F_X9_wordOf m_place m_end m_text) (fun v1 => if v1 = (-1 : Int32) then (some ((0 : Int32), m_readMany, m_at, m_place, m_end, m_readYards, m_readSeeps, m_readChildren, m_read)) else (zj0 (zc1 (F_X9_isChildWord v1) (fun v5 => zj0 (zc3 (F_X9_token m_length m_at m_place m_end m_text) (fun g8 g9 g10 => wr 60 ((5 : Int32) * m_readMany) (upd m_read (((5 : Int32) * m_readMany)).toNatClampNeg v1) (fun g12 => zc5 (F_X9_readsRest m_length m_readMany g8 g9 g10 m_readYards m_text g12 v1) (fun v14 g15 g16 g17 g18 => if v14 = 0 then (some ((0 : Int32), m_readMany, g15, g16, g17, m_readYards, m_readSeeps, m_readChildren, g18)) else (zj1 (fun y21 => zj0 (zj0 (bd (m_readMany + (1 : Int32)) (fun v25 => some ((1 : Int32), v25, g15, g16, g17, y21, (0 : Int32), (0 : Int32), g18))) (fun K24 => if v1 = 0 then (K24) else (if v1 = (8 : Int32) then (K24) else (zc1 (F_X9_isChildWord v1) (fun v28 => zj1 (fun y30 => bd (m_readMany + (1 : Int32)) (fun v32 => some ((1 : Int32), v32, g15, g16, g17, y21, (0 : Int32), y30, g18))) (fun K31 => if v28 = 0 then (K31 m_readChildren) else (K31 (m_readChildren + (1 : Int32))))))))) (fun K23 => if v1 = 0 then (K23) else (if v1 = (7 : Int32) then (K23) else (zj1 (fun y36 => zj0 (bd (m_readMany + (1 : Int32)) (fun v39 => some ((1 : Int32), v39, g15, g16, g17, y21, y36, (0 : Int32), g18))) (fun K38 => if v1 = 0 then (K38) else (if v1 = (8 : Int32) then (K38) else (zc1 (F_X9_isChildWord v1) (fun v42 => zj1 (fun y44 => bd (m_readMany + (1 : Int32)) (fun v46 => some ((1 : Int32), v46, g15, g16, g17, y21, y36, y44, g18))) (fun K45 => if v42 = 0 then (K45 m_readChildren) else (K45 (m_readChildren + (1 : Int32))))))))) (fun K37 => if v1 = (2 : Int32) then (K37 (m_readSeeps + (1 : Int32))) else (K37 m_readSeeps)))))) (fun K22 => if v1 = 0 then (rd 60 g18 (((5 : Int32) * m_readMany) + (1 : Int32)) (fun v50 => K22 v50)) else (K22 m_readYards))))))) (fun K7 => if v5 = 0 then (K7) else (if m_readChildren = (5 : Int32) then (some ((0 : Int32), m_readMany, m_at, m_place, m_end, m_readYards, m_readSeeps, m_readChildren, m_read)) else (K7))))) (fun K4 => if v1 = (2 : Int32) then (if m_readSeeps = (6 : Int32) then (some ((0 : Int32), m_readMany, m_at, m_place, m_end, m_readYards, m_readSeeps, m_readChildren, m_read)) else (K4)) else (K4))))
abbrev rm_X9_readsLine : Room := { frames := 4, cells := 0, slots := 0, locals := 87 }
theorem kd_X9_readsLine : yX9_readsLine.cls = RX9 ∧ yX9_readsLine.cls ≠ "java/lang/invoke/MethodHandle" ∧ yX9_readsLine.cls ≠ "java/lang/invoke/VarHandle" ∧ (parseMethodDescriptor yX9_readsLine.desc).map (fun d => d.parameters.length) = some 0 := by decide +kernel
set_option maxRecDepth 100000 in
set_option maxHeartbeats 4000000 in
theorem A_X9_readsLine (l : Launch) (D : va_G) (cB cI cJ cZ : ClassId) (ad : (Nat → Nat) × (Nat → Nat)) (a_m a_m_row a_m_isKept a_m_text a_m_read a_m_tides a_m_seeps a_m_kinds a_m_paces a_m_ears a_m_hearers a_m_chosen a_m_dues a_m_sights : Nat) (m_length : Int32) (m_readMany : Int32) (m_yards : Int32) (m_seepMany : Int32) (m_many : Int32) (m_at : Int32) (m_place : Int32) (m_end : Int32) (m_readYards : Int32) (m_readSeeps : Int32) (m_readChildren : Int32) (m_chosenMany : Int32) (m_seenMany : Int32) (m_text : Nat → Int32) (m_read : Nat → Int32) (r : Int32) (m_readMany' : Int32) (m_at' : Int32) (m_place' : Int32) (m_end' : Int32) (m_readYards' : Int32) (m_readSeeps' : Int32) (m_readChildren' : Int32) (m_read' : Nat → Int32) (hF : F_X9_readsLine m_length m_readMany m_at m_place m_end m_readYards m_readSeeps m_readChildren m_text m_read = some (r, m_readMany', m_at', m_place', m_end', m_readYards', m_readSeeps', m_readChildren', m_read')) : kM l yX9_readsLine (Cond.code yX9_readsLine cX9_readsLine 2 (some .boolean) :: W0) rm_X9_readsLine D (kT cB cI cJ cZ) ad [.ref a_m] [(a_m, .inr (9, [.ref a_m_row, .ref a_m_isKept, .ref a_m_text, .int m_length, .ref a_m_read, .int m_readMany, .int m_yards, .ref a_m_tides, .ref a_m_seeps, .int m_seepMany, .ref a_m_kinds, .ref a_m_paces, .ref a_m_ears, .int m_many, .int m_at, .int m_place, .int m_end, .int m_readYards, .int m_readSeeps, .int m_readChildren, .ref a_m_hearers, .ref a_m_chosen, .int m_chosenMany, .ref a_m_dues, .ref a_m_sights, .int m_seenMany])), (a_m_text, .inl (cI, 200, .inl m_text)), (a_m_read, .inl (cI, 60, .inl m_read))] (some (.int r)) [(a_m, .inr (9, [.ref a_m_row, .ref a_m_isKept, .ref a_m_text, .int m_length, .ref a_m_read, .int (m_readMany'), .int m_yards, .ref a_m_tides, .ref a_m_seeps, .int m_seepMany, .ref a_m_kinds, .ref a_m_paces, .ref a_m_ears, .int m_many, .int (m_at'), .int (m_place'), .int (m_end'), .int (m_readYards'), .int (m_readSeeps'), .int (m_readChildren'), .ref a_m_hearers, .ref a_m_chosen, .int m_chosenMany, .ref a_m_dues, .ref a_m_sights, .int m_seenMany])), (a_m_text, .inl (cI, 200, .inl m_text)), (a_m_read, .inl (cI, 60, .inl (m_read')))] := by
  unfold F_X9_readsLine at hF
  refine kStart (lv := [(0, .ref a_m)]) (own := "DikeWatchModel") (plainFor_of_name (by decide)) rfl (Nat.le_of_ble_eq_true rfl) rfl ?_
  intro p e s m args below meth c A Q ls hQ C hx hb hw hl
  refine lv_aload_n hx hb (dq dt_X9_readsLine 0 rfl) rfl (lv_at hl 0 rfl) ?_
  obtain ⟨v1, hr2, hF⟩ := zc1_ hF
  refine kCallVR C hw (A_X9_wordOf l D cB cI cJ cZ ad a_m a_m_row a_m_isKept a_m_text a_m_read a_m_tides a_m_seeps a_m_kinds a_m_paces a_m_ears a_m_hearers a_m_chosen a_m_dues a_m_sights m_length m_readMany m_yards m_seepMany m_many m_at m_place m_end m_readYards m_readSeeps m_readChildren m_chosenMany m_seenMany m_text v1 hr2) (cwV 0 C.2.2.2.2.2.2.1 (w0_V0 q4_206 q4_203 q4_205 (ws0 24 rfl) q1_10) rfl rfl rfl kd_X9_wordOf ⟨Nat.le_of_ble_eq_true rfl, Nat.le_of_ble_eq_true rfl⟩) [0, 1] rfl rfl 0 9 rfl rfl hl.1 rfl rfl rfl (Nat.le_of_ble_eq_true rfl) ⟨Nat.le_of_ble_eq_true rfl, Nat.le_of_ble_eq_true rfl⟩ (dq dt_X9_readsLine 1 rfl) (fun H locs hw => ?_)
  refine lv_istore_n (lv' := [(1, .int v1), (0, .ref a_m)]) hx hb (dq dt_X9_readsLine 2 rfl) rfl hl (by decide) rfl (fun ls hl => ?_)
  refine lv_iload_n hx hb (dq dt_X9_readsLine 3 rfl) rfl (lv_at hl 0 rfl) ?_
  refine lv_iconst (v := (-1 : Int32)) hx hb (dq dt_X9_readsLine 4 rfl) (by decide) ?_
  refine lv_icmp_eq (tgt := 39) hx hb (dq dt_X9_readsLine 5 rfl) (by decide) (fun c3 => ?_) (fun c3 => ?_)
  · replace hF := if_t c3 hF
    refine lv_iconst (v := (0 : Int32)) hx hb (dq dt_X9_readsLine 20 rfl) (by decide) ?_
    cases hF
    exact kRetZ hQ C rfl hw (dq dt_X9_readsLine 21 rfl)
  · replace hF := if_f c3 hF
    refine lv_iload_n hx hb (dq dt_X9_readsLine 6 rfl) rfl (lv_at hl 0 rfl) ?_
    refine lv_iconst (v := (2 : Int32)) hx hb (dq dt_X9_readsLine 7 rfl) (by decide) ?_
    obtain ⟨K4, hK4, hF⟩ := zj0_ hF
    have J4 : K4 = some (r, m_readMany', m_at', m_place', m_end', m_readYards', m_readSeeps', m_readChildren', m_read') → ∀ (H : Heap) (locs : List Loc) (ls : Array Slot), kW D A s.heap [(a_m, .inr (9, [.ref a_m_row, .ref a_m_isKept, .ref a_m_text, .int m_length, .ref a_m_read, .int m_readMany, .int m_yards, .ref a_m_tides, .ref a_m_seeps, .int m_seepMany, .ref a_m_kinds, .ref a_m_paces, .ref a_m_ears, .int m_many, .int m_at, .int m_place, .int m_end, .int m_readYards, .int m_readSeeps, .int m_readChildren, .ref a_m_hearers, .ref a_m_chosen, .int m_chosenMany, .ref a_m_dues, .ref a_m_sights, .int m_seenMany])), (a_m_text, .inl (cI, 200, .inl m_text)), (a_m_read, .inl (cI, 60, .inl m_read))] H locs → lv_has ls 2 [(0, .ref a_m), (1, .int v1)] → W p l e rm_X9_readsLine s m args below meth c H locs 0 0 Q (F0 m 24 ls []) := by
      intro hF H locs ls hw hl
      replace hF := hK4 hF
      refine lv_iload_n hx hb (dq dt_X9_readsLine 13 rfl) rfl (lv_at hl 1 rfl) ?_
      obtain ⟨v5, hr6, hF⟩ := zc1_ hF
      refine kCallSP C hw (A_X9_isChildWord l D cB cI cJ cZ ad v1 v5 hr6) (va_cwS 1 C.2.2.2.2.2.2.1 (w0_S0 q4_225 q4_223 q4_224 q1_10) rfl rfl rfl ke_X9_isChildWord ⟨Nat.le_of_ble_eq_true rfl, Nat.le_of_ble_eq_true rfl⟩) hl.1 rfl rfl rfl (Nat.le_of_ble_eq_true rfl) ⟨Nat.le_of_ble_eq_true rfl, Nat.le_of_ble_eq_true rfl⟩ (dq dt_X9_readsLine 14 rfl) (fun H locs hw => ?_)
      obtain ⟨K7, hK7, hF⟩ := zj0_ hF
      have J7 : K7 = some (r, m_readMany', m_at', m_place', m_end', m_readYards', m_readSeeps', m_readChildren', m_read') → ∀ (H : Heap) (locs : List Loc) (ls : Array Slot), kW D A s.heap [(a_m, .inr (9, [.ref a_m_row, .ref a_m_isKept, .ref a_m_text, .int m_length, .ref a_m_read, .int m_readMany, .int m_yards, .ref a_m_tides, .ref a_m_seeps, .int m_seepMany, .ref a_m_kinds, .ref a_m_paces, .ref a_m_ears, .int m_many, .int m_at, .int m_place, .int m_end, .int m_readYards, .int m_readSeeps, .int m_readChildren, .ref a_m_hearers, .ref a_m_chosen, .int m_chosenMany, .ref a_m_dues, .ref a_m_sights, .int m_seenMany])), (a_m_text, .inl (cI, 200, .inl m_text)), (a_m_read, .inl (cI, 60, .inl m_read))] H locs → lv_has ls 2 [(0, .ref a_m), (1, .int v1)] → W p l e rm_X9_readsLine s m args below meth c H locs 0 0 Q (F0 m 41 ls []) := by
        intro hF H locs ls hw hl
        replace hF := hK7 hF
        refine lv_aload_n hx hb (dq dt_X9_readsLine 22 rfl) rfl (lv_at hl 0 rfl) ?_
        obtain ⟨g8, g9, g10, hr11, hF⟩ := zc3_ hF
        refine kCallV (ws2 := [(a_m, .inr (9, [.ref a_m_row, .ref a_m_isKept, .ref a_m_text, .int m_length, .ref a_m_read, .int m_readMany, .int m_yards, .ref a_m_tides, .ref a_m_seeps, .int m_seepMany, .ref a_m_kinds, .ref a_m_paces, .ref a_m_ears, .int m_many, .int g8, .int g9, .int g10, .int m_readYards, .int m_readSeeps, .int m_readChildren, .ref a_m_hearers, .ref a_m_chosen, .int m_chosenMany, .ref a_m_dues, .ref a_m_sights, .int m_seenMany])), (a_m_text, .inl (cI, 200, .inl m_text)), (a_m_read, .inl (cI, 60, .inl m_read))]) C hw (A_X9_token l D cB cI cJ cZ ad a_m a_m_row a_m_isKept a_m_text a_m_read a_m_tides a_m_seeps a_m_kinds a_m_paces a_m_ears a_m_hearers a_m_chosen a_m_dues a_m_sights m_length m_readMany m_yards m_seepMany m_many m_at m_place m_end m_readYards m_readSeeps m_readChildren m_chosenMany m_seenMany m_text g8 g9 g10 hr11) (cwV 0 C.2.2.2.2.2.2.1 (w0_V0 q4_195 q4_192 q4_194 (ws0 22 rfl) q1_10) rfl rfl rfl kd_X9_token ⟨Nat.le_of_ble_eq_true rfl, Nat.le_of_ble_eq_true rfl⟩) [0, 1] rfl rfl rfl rfl 0 9 rfl rfl hl.1 rfl rfl rfl (Nat.le_of_ble_eq_true rfl) ⟨Nat.le_of_ble_eq_true rfl, Nat.le_of_ble_eq_true rfl⟩ (dq dt_X9_readsLine 23 rfl) (fun H locs hw => ?_)
        refine lv_aload_n hx hb (dq dt_X9_readsLine 24 rfl) rfl (lv_at hl 0 rfl) ?_
        refine kGet (ci := 9) C in_X9 hw 0 rfl rfl 4 (by decide) (C.2.2.2.2.2.2.1 _ q4_99) rfl rfl (dq dt_X9_readsLine 25 rfl) ?_
        refine lv_iconst (v := (5 : Int32)) hx hb (dq dt_X9_readsLine 26 rfl) (by decide) ?_
        refine lv_aload_n hx hb (dq dt_X9_readsLine 27 rfl) rfl (lv_at hl 0 rfl) ?_
        refine kGet (ci := 9) C in_X9 hw 0 rfl rfl 5 (by decide) (C.2.2.2.2.2.2.1 _ q4_100) rfl rfl (dq dt_X9_readsLine 28 rfl) ?_
        refine lv_imul hx hb (dq dt_X9_readsLine 29 rfl) ?_
        refine lv_iload_n hx hb (dq dt_X9_readsLine 30 rfl) rfl (lv_at hl 1 rfl) ?_
        obtain ⟨g12, eg12, hi13, hF⟩ := wr_ hF
        refine kIast (ws' := [(a_m, .inr (9, [.ref a_m_row, .ref a_m_isKept, .ref a_m_text, .int m_length, .ref a_m_read, .int m_readMany, .int m_yards, .ref a_m_tides, .ref a_m_seeps, .int m_seepMany, .ref a_m_kinds, .ref a_m_paces, .ref a_m_ears, .int m_many, .int g8, .int g9, .int g10, .int m_readYards, .int m_readSeeps, .int m_readChildren, .ref a_m_hearers, .ref a_m_chosen, .int m_chosenMany, .ref a_m_dues, .ref a_m_sights, .int m_seenMany])), (a_m_text, .inl (cI, 200, .inl m_text)), (a_m_read, .inl (cI, 60, .inl g12))]) C hw 2 1 rfl rfl hi13 eg12 rfl (dq dt_X9_readsLine 31 rfl) (fun H locs hw => ?_)
        refine lv_aload_n hx hb (dq dt_X9_readsLine 32 rfl) rfl (lv_at hl 0 rfl) ?_
        refine lv_iload_n hx hb (dq dt_X9_readsLine 33 rfl) rfl (lv_at hl 1 rfl) ?_
        obtain ⟨v14, g15, g16, g17, g18, hr19, hF⟩ := zc5_ hF
        refine kCallV (ws2 := [(a_m, .inr (9, [.ref a_m_row, .ref a_m_isKept, .ref a_m_text, .int m_length, .ref a_m_read, .int m_readMany, .int m_yards, .ref a_m_tides, .ref a_m_seeps, .int m_seepMany, .ref a_m_kinds, .ref a_m_paces, .ref a_m_ears, .int m_many, .int g15, .int g16, .int g17, .int m_readYards, .int m_readSeeps, .int m_readChildren, .ref a_m_hearers, .ref a_m_chosen, .int m_chosenMany, .ref a_m_dues, .ref a_m_sights, .int m_seenMany])), (a_m_text, .inl (cI, 200, .inl m_text)), (a_m_read, .inl (cI, 60, .inl g18))]) C hw (A_X9_readsRest l D cB cI cJ cZ ad a_m a_m_row a_m_isKept a_m_text a_m_read a_m_tides a_m_seeps a_m_kinds a_m_paces a_m_ears a_m_hearers a_m_chosen a_m_dues a_m_sights m_length m_readMany m_yards m_seepMany m_many g8 g9 g10 m_readYards m_readSeeps m_readChildren m_chosenMany m_seenMany m_text g12 v1 v14 g15 g16 g17 g18 hr19) (cwV 1 C.2.2.2.2.2.2.1 (w0_V0 q4_231 q4_228 q4_230 (ws0 27 rfl) q1_10) rfl rfl rfl kd_X9_readsRest ⟨Nat.le_of_ble_eq_true rfl, Nat.le_of_ble_eq_true rfl⟩) [0, 1, 2] rfl rfl rfl rfl 0 9 rfl rfl hl.1 rfl rfl rfl (Nat.le_of_ble_eq_true rfl) ⟨Nat.le_of_ble_eq_true rfl, Nat.le_of_ble_eq_true rfl⟩ (dq dt_X9_readsLine 34 rfl) (fun H locs hw => ?_)
        refine lv_if_ne (tgt := 67) hx hb (dq dt_X9_readsLine 35 rfl) (by decide) (fun c20 => ?_) (fun c20 => ?_)
        · replace hF := if_f c20 hF
          refine lv_aload_n hx hb (dq dt_X9_readsLine 38 rfl) rfl (lv_at hl 0 rfl) ?_
          refine lv_iload_n hx hb (dq dt_X9_readsLine 39 rfl) rfl (lv_at hl 1 rfl) ?_
          obtain ⟨K22, hK22, hF⟩ := zj1_ hF
          have J22 : ∀ (y21 : Int32), K22 y21 = some (r, m_readMany', m_at', m_place', m_end', m_readYards', m_readSeeps', m_readChildren', m_read') → ∀ (H : Heap) (locs : List Loc) (ls : Array Slot), kW D A s.heap [(a_m, .inr (9, [.ref a_m_row, .ref a_m_isKept, .ref a_m_text, .int m_length, .ref a_m_read, .int m_readMany, .int m_yards, .ref a_m_tides, .ref a_m_seeps, .int m_seepMany, .ref a_m_kinds, .ref a_m_paces, .ref a_m_ears, .int m_many, .int g15, .int g16, .int g17, .int m_readYards, .int m_readSeeps, .int m_readChildren, .ref a_m_hearers, .ref a_m_chosen, .int m_chosenMany, .ref a_m_dues, .ref a_m_sights, .int m_seenMany])), (a_m_text, .inl (cI, 200, .inl m_text)), (a_m_read, .inl (cI, 60, .inl g18))] H locs → lv_has ls 2 [(0, .ref a_m), (1, .int v1)] → W p l e rm_X9_readsLine s m args below meth c H locs 0 0 Q (F0 m 92 ls [.int y21, .ref a_m]) := by
            intro y21 hF H locs ls hw hl
            replace hF := hK22 y21 hF
            refine kPut (ci := 9) (ws' := [(a_m, .inr (9, [.ref a_m_row, .ref a_m_isKept, .ref a_m_text, .int m_length, .ref a_m_read, .int m_readMany, .int m_yards, .ref a_m_tides, .ref a_m_seeps, .int m_seepMany, .ref a_m_kinds, .ref a_m_paces, .ref a_m_ears, .int m_many, .int g15, .int g16, .int g17, .int y21, .int m_readSeeps, .int m_readChildren, .ref a_m_hearers, .ref a_m_chosen, .int m_chosenMany, .ref a_m_dues, .ref a_m_sights, .int m_seenMany])), (a_m_text, .inl (cI, 200, .inl m_text)), (a_m_read, .inl (cI, 60, .inl g18))]) C in_X9 tyX9 tyX9_ok nmX9 hw 0 rfl rfl 17 (by decide) (C.2.2.2.2.2.2.1 _ q4_112) rfl rfl rfl rfl (Nat.le_of_ble_eq_true rfl) rfl (dq dt_X9_readsLine 53 rfl) (fun H locs hw => ?_)
            refine lv_aload_n hx hb (dq dt_X9_readsLine 54 rfl) rfl (lv_at hl 0 rfl) ?_
            refine lv_iload_n hx hb (dq dt_X9_readsLine 55 rfl) rfl (lv_at hl 1 rfl) ?_
            obtain ⟨K23, hK23, hF⟩ := zj0_ hF
            have J23 : K23 = some (r, m_readMany', m_at', m_place', m_end', m_readYards', m_readSeeps', m_readChildren', m_read') → ∀ (H : Heap) (locs : List Loc) (ls : Array Slot), kW D A s.heap [(a_m, .inr (9, [.ref a_m_row, .ref a_m_isKept, .ref a_m_text, .int m_length, .ref a_m_read, .int m_readMany, .int m_yards, .ref a_m_tides, .ref a_m_seeps, .int m_seepMany, .ref a_m_kinds, .ref a_m_paces, .ref a_m_ears, .int m_many, .int g15, .int g16, .int g17, .int y21, .int m_readSeeps, .int m_readChildren, .ref a_m_hearers, .ref a_m_chosen, .int m_chosenMany, .ref a_m_dues, .ref a_m_sights, .int m_seenMany])), (a_m_text, .inl (cI, 200, .inl m_text)), (a_m_read, .inl (cI, 60, .inl g18))] H locs → lv_has ls 2 [(0, .ref a_m), (1, .int v1)] → W p l e rm_X9_readsLine s m args below meth c H locs 0 0 Q (F0 m 106 ls [.ref a_m]) := by
              intro hF H locs ls hw hl
              replace hF := hK23 hF
              refine lv_iconst (v := (0 : Int32)) hx hb (dq dt_X9_readsLine 60 rfl) (by decide) ?_
              refine lv_goto (tgt := 128) hx hb (dq dt_X9_readsLine 61 rfl) (by decide) ?_
              refine kPut (ci := 9) (ws' := [(a_m, .inr (9, [.ref a_m_row, .ref a_m_isKept, .ref a_m_text, .int m_length, .ref a_m_read, .int m_readMany, .int m_yards, .ref a_m_tides, .ref a_m_seeps, .int m_seepMany, .ref a_m_kinds, .ref a_m_paces, .ref a_m_ears, .int m_many, .int g15, .int g16, .int g17, .int y21, .int (0 : Int32), .int m_readChildren, .ref a_m_hearers, .ref a_m_chosen, .int m_chosenMany, .ref a_m_dues, .ref a_m_sights, .int m_seenMany])), (a_m_text, .inl (cI, 200, .inl m_text)), (a_m_read, .inl (cI, 60, .inl g18))]) C in_X9 tyX9 tyX9_ok nmX9 hw 0 rfl rfl 18 (by decide) (C.2.2.2.2.2.2.1 _ q4_113) rfl rfl rfl rfl (Nat.le_of_ble_eq_true rfl) rfl (dq dt_X9_readsLine 72 rfl) (fun H locs hw => ?_)
              refine lv_aload_n hx hb (dq dt_X9_readsLine 73 rfl) rfl (lv_at hl 0 rfl) ?_
              refine lv_iload_n hx hb (dq dt_X9_readsLine 74 rfl) rfl (lv_at hl 1 rfl) ?_
              obtain ⟨K24, hK24, hF⟩ := zj0_ hF
              have J24 : K24 = some (r, m_readMany', m_at', m_place', m_end', m_readYards', m_readSeeps', m_readChildren', m_read') → ∀ (H : Heap) (locs : List Loc) (ls : Array Slot), kW D A s.heap [(a_m, .inr (9, [.ref a_m_row, .ref a_m_isKept, .ref a_m_text, .int m_length, .ref a_m_read, .int m_readMany, .int m_yards, .ref a_m_tides, .ref a_m_seeps, .int m_seepMany, .ref a_m_kinds, .ref a_m_paces, .ref a_m_ears, .int m_many, .int g15, .int g16, .int g17, .int y21, .int (0 : Int32), .int m_readChildren, .ref a_m_hearers, .ref a_m_chosen, .int m_chosenMany, .ref a_m_dues, .ref a_m_sights, .int m_seenMany])), (a_m_text, .inl (cI, 200, .inl m_text)), (a_m_read, .inl (cI, 60, .inl g18))] H locs → lv_has ls 2 [(0, .ref a_m)] → W p l e rm_X9_readsLine s m args below meth c H locs 0 0 Q (F0 m 142 ls [.ref a_m]) := by
                intro hF H locs ls hw hl
                replace hF := hK24 hF
                refine lv_iconst (v := (0 : Int32)) hx hb (dq dt_X9_readsLine 79 rfl) (by decide) ?_
                refine lv_goto (tgt := 166) hx hb (dq dt_X9_readsLine 80 rfl) (by decide) ?_
                refine kPut (ci := 9) (ws' := [(a_m, .inr (9, [.ref a_m_row, .ref a_m_isKept, .ref a_m_text, .int m_length, .ref a_m_read, .int m_readMany, .int m_yards, .ref a_m_tides, .ref a_m_seeps, .int m_seepMany, .ref a_m_kinds, .ref a_m_paces, .ref a_m_ears, .int m_many, .int g15, .int g16, .int g17, .int y21, .int (0 : Int32), .int (0 : Int32), .ref a_m_hearers, .ref a_m_chosen, .int m_chosenMany, .ref a_m_dues, .ref a_m_sights, .int m_seenMany])), (a_m_text, .inl (cI, 200, .inl m_text)), (a_m_read, .inl (cI, 60, .inl g18))]) C in_X9 tyX9 tyX9_ok nmX9 hw 0 rfl rfl 19 (by decide) (C.2.2.2.2.2.2.1 _ q4_114) rfl rfl rfl rfl (Nat.le_of_ble_eq_true rfl) rfl (dq dt_X9_readsLine 91 rfl) (fun H locs hw => ?_)
                refine lv_aload_n hx hb (dq dt_X9_readsLine 92 rfl) rfl (lv_at hl 0 rfl) ?_
                refine lv_dup hx hb (dq dt_X9_readsLine 93 rfl) rfl ?_
                refine kGet (ci := 9) C in_X9 hw 0 rfl rfl 5 (by decide) (C.2.2.2.2.2.2.1 _ q4_100) rfl rfl (dq dt_X9_readsLine 94 rfl) ?_
                refine lv_iconst (v := (1 : Int32)) hx hb (dq dt_X9_readsLine 95 rfl) (by decide) ?_
                refine lv_iadd hx hb (dq dt_X9_readsLine 96 rfl) ?_
                obtain ⟨v25, ev25, hF⟩ := bd_ hF
                refine kNmI ev25 ?_
                refine kPut (ci := 9) (ws' := [(a_m, .inr (9, [.ref a_m_row, .ref a_m_isKept, .ref a_m_text, .int m_length, .ref a_m_read, .int v25, .int m_yards, .ref a_m_tides, .ref a_m_seeps, .int m_seepMany, .ref a_m_kinds, .ref a_m_paces, .ref a_m_ears, .int m_many, .int g15, .int g16, .int g17, .int y21, .int (0 : Int32), .int (0 : Int32), .ref a_m_hearers, .ref a_m_chosen, .int m_chosenMany, .ref a_m_dues, .ref a_m_sights, .int m_seenMany])), (a_m_text, .inl (cI, 200, .inl m_text)), (a_m_read, .inl (cI, 60, .inl g18))]) C in_X9 tyX9 tyX9_ok nmX9 hw 0 rfl rfl 5 (by decide) (C.2.2.2.2.2.2.1 _ q4_100) rfl rfl rfl rfl (Nat.le_of_ble_eq_true rfl) rfl (dq dt_X9_readsLine 97 rfl) (fun H locs hw => ?_)
                refine lv_iconst (v := (1 : Int32)) hx hb (dq dt_X9_readsLine 98 rfl) (by decide) ?_
                cases hF
                exact kRetZ hQ C rfl hw (dq dt_X9_readsLine 99 rfl)
              refine lv_if_eq (tgt := 142) hx hb (dq dt_X9_readsLine 75 rfl) (by decide) (fun c26 => ?_) (fun c26 => ?_)
              · replace hF := if_t c26 hF
                exact J24 hF _ _ _ hw (lv_sub hl [0] rfl)
              · replace hF := if_f c26 hF
                refine lv_iload_n hx hb (dq dt_X9_readsLine 76 rfl) rfl (lv_at hl 1 rfl) ?_
                refine lv_bipush (v := (8 : Int32)) hx hb (dq dt_X9_readsLine 77 rfl) (by decide) ?_
                refine lv_icmp_ne (tgt := 146) hx hb (dq dt_X9_readsLine 78 rfl) (by decide) (fun c27 => ?_) (fun c27 => ?_)
                · replace hF := if_f c27 hF
                  refine lv_iload_n hx hb (dq dt_X9_readsLine 81 rfl) rfl (lv_at hl 1 rfl) ?_
                  obtain ⟨v28, hr29, hF⟩ := zc1_ hF
                  refine kCallSP C hw (A_X9_isChildWord l D cB cI cJ cZ ad v1 v28 hr29) (va_cwS 1 C.2.2.2.2.2.2.1 (w0_S0 q4_225 q4_223 q4_224 q1_10) rfl rfl rfl ke_X9_isChildWord ⟨Nat.le_of_ble_eq_true rfl, Nat.le_of_ble_eq_true rfl⟩) hl.1 rfl rfl rfl (Nat.le_of_ble_eq_true rfl) ⟨Nat.le_of_ble_eq_true rfl, Nat.le_of_ble_eq_true rfl⟩ (dq dt_X9_readsLine 82 rfl) (fun H locs hw => ?_)
                  obtain ⟨K31, hK31, hF⟩ := zj1_ hF
                  have J31 : ∀ (y30 : Int32), K31 y30 = some (r, m_readMany', m_at', m_place', m_end', m_readYards', m_readSeeps', m_readChildren', m_read') → ∀ (H : Heap) (locs : List Loc) (ls : Array Slot), kW D A s.heap [(a_m, .inr (9, [.ref a_m_row, .ref a_m_isKept, .ref a_m_text, .int m_length, .ref a_m_read, .int m_readMany, .int m_yards, .ref a_m_tides, .ref a_m_seeps, .int m_seepMany, .ref a_m_kinds, .ref a_m_paces, .ref a_m_ears, .int m_many, .int g15, .int g16, .int g17, .int y21, .int (0 : Int32), .int m_readChildren, .ref a_m_hearers, .ref a_m_chosen, .int m_chosenMany, .ref a_m_dues, .ref a_m_sights, .int m_seenMany])), (a_m_text, .inl (cI, 200, .inl m_text)), (a_m_read, .inl (cI, 60, .inl g18))] H locs → lv_has ls 2 [(0, .ref a_m)] → W p l e rm_X9_readsLine s m args below meth c H locs 0 0 Q (F0 m 166 ls [.int y30, .ref a_m]) := by
                    intro y30 hF H locs ls hw hl
                    replace hF := hK31 y30 hF
                    refine kPut (ci := 9) (ws' := [(a_m, .inr (9, [.ref a_m_row, .ref a_m_isKept, .ref a_m_text, .int m_length, .ref a_m_read, .int m_readMany, .int m_yards, .ref a_m_tides, .ref a_m_seeps, .int m_seepMany, .ref a_m_kinds, .ref a_m_paces, .ref a_m_ears, .int m_many, .int g15, .int g16, .int g17, .int y21, .int (0 : Int32), .int y30, .ref a_m_hearers, .ref a_m_chosen, .int m_chosenMany, .ref a_m_dues, .ref a_m_sights, .int m_seenMany])), (a_m_text, .inl (cI, 200, .inl m_text)), (a_m_read, .inl (cI, 60, .inl g18))]) C in_X9 tyX9 tyX9_ok nmX9 hw 0 rfl rfl 19 (by decide) (C.2.2.2.2.2.2.1 _ q4_114) rfl rfl rfl rfl (Nat.le_of_ble_eq_true rfl) rfl (dq dt_X9_readsLine 91 rfl) (fun H locs hw => ?_)
                    refine lv_aload_n hx hb (dq dt_X9_readsLine 92 rfl) rfl (lv_at hl 0 rfl) ?_
                    refine lv_dup hx hb (dq dt_X9_readsLine 93 rfl) rfl ?_
                    refine kGet (ci := 9) C in_X9 hw 0 rfl rfl 5 (by decide) (C.2.2.2.2.2.2.1 _ q4_100) rfl rfl (dq dt_X9_readsLine 94 rfl) ?_
                    refine lv_iconst (v := (1 : Int32)) hx hb (dq dt_X9_readsLine 95 rfl) (by decide) ?_
                    refine lv_iadd hx hb (dq dt_X9_readsLine 96 rfl) ?_
                    obtain ⟨v32, ev32, hF⟩ := bd_ hF
                    refine kNmI ev32 ?_
                    refine kPut (ci := 9) (ws' := [(a_m, .inr (9, [.ref a_m_row, .ref a_m_isKept, .ref a_m_text, .int m_length, .ref a_m_read, .int v32, .int m_yards, .ref a_m_tides, .ref a_m_seeps, .int m_seepMany, .ref a_m_kinds, .ref a_m_paces, .ref a_m_ears, .int m_many, .int g15, .int g16, .int g17, .int y21, .int (0 : Int32), .int y30, .ref a_m_hearers, .ref a_m_chosen, .int m_chosenMany, .ref a_m_dues, .ref a_m_sights, .int m_seenMany])), (a_m_text, .inl (cI, 200, .inl m_text)), (a_m_read, .inl (cI, 60, .inl g18))]) C in_X9 tyX9 tyX9_ok nmX9 hw 0 rfl rfl 5 (by decide) (C.2.2.2.2.2.2.1 _ q4_100) rfl rfl rfl rfl (Nat.le_of_ble_eq_true rfl) rfl (dq dt_X9_readsLine 97 rfl) (fun H locs hw => ?_)
                    refine lv_iconst (v := (1 : Int32)) hx hb (dq dt_X9_readsLine 98 rfl) (by decide) ?_
                    cases hF
                    exact kRetZ hQ C rfl hw (dq dt_X9_readsLine 99 rfl)
                  refine lv_if_eq (tgt := 162) hx hb (dq dt_X9_readsLine 83 rfl) (by decide) (fun c33 => ?_) (fun c33 => ?_)
                  · replace hF := if_t c33 hF
                    refine lv_aload_n hx hb (dq dt_X9_readsLine 89 rfl) rfl (lv_at hl 0 rfl) ?_
                    refine kGet (ci := 9) C in_X9 hw 0 rfl rfl 19 (by decide) (C.2.2.2.2.2.2.1 _ q4_114) rfl rfl (dq dt_X9_readsLine 90 rfl) ?_
                    exact J31 m_readChildren hF _ _ _ hw (lv_sub hl [0] rfl)
                  · replace hF := if_f c33 hF
                    refine lv_aload_n hx hb (dq dt_X9_readsLine 84 rfl) rfl (lv_at hl 0 rfl) ?_
                    refine kGet (ci := 9) C in_X9 hw 0 rfl rfl 19 (by decide) (C.2.2.2.2.2.2.1 _ q4_114) rfl rfl (dq dt_X9_readsLine 85 rfl) ?_
                    refine lv_iconst (v := (1 : Int32)) hx hb (dq dt_X9_readsLine 86 rfl) (by decide) ?_
                    refine lv_iadd hx hb (dq dt_X9_readsLine 87 rfl) ?_
                    refine lv_goto (tgt := 166) hx hb (dq dt_X9_readsLine 88 rfl) (by decide) ?_
                    exact J31 (m_readChildren + (1 : Int32)) hF _ _ _ hw (lv_sub hl [0] rfl)
                · replace hF := if_t c27 hF
                  exact J24 hF _ _ _ hw (lv_sub hl [0] rfl)
            refine lv_if_eq (tgt := 106) hx hb (dq dt_X9_readsLine 56 rfl) (by decide) (fun c34 => ?_) (fun c34 => ?_)
            · replace hF := if_t c34 hF
              exact J23 hF _ _ _ hw (lv_sub hl [0, 1] rfl)
            · replace hF := if_f c34 hF
              refine lv_iload_n hx hb (dq dt_X9_readsLine 57 rfl) rfl (lv_at hl 1 rfl) ?_
              refine lv_bipush (v := (7 : Int32)) hx hb (dq dt_X9_readsLine 58 rfl) (by decide) ?_
              refine lv_icmp_ne (tgt := 110) hx hb (dq dt_X9_readsLine 59 rfl) (by decide) (fun c35 => ?_) (fun c35 => ?_)
              · replace hF := if_f c35 hF
                refine lv_iload_n hx hb (dq dt_X9_readsLine 62 rfl) rfl (lv_at hl 1 rfl) ?_
                refine lv_iconst (v := (2 : Int32)) hx hb (dq dt_X9_readsLine 63 rfl) (by decide) ?_
                obtain ⟨K37, hK37, hF⟩ := zj1_ hF
                have J37 : ∀ (y36 : Int32), K37 y36 = some (r, m_readMany', m_at', m_place', m_end', m_readYards', m_readSeeps', m_readChildren', m_read') → ∀ (H : Heap) (locs : List Loc) (ls : Array Slot), kW D A s.heap [(a_m, .inr (9, [.ref a_m_row, .ref a_m_isKept, .ref a_m_text, .int m_length, .ref a_m_read, .int m_readMany, .int m_yards, .ref a_m_tides, .ref a_m_seeps, .int m_seepMany, .ref a_m_kinds, .ref a_m_paces, .ref a_m_ears, .int m_many, .int g15, .int g16, .int g17, .int y21, .int m_readSeeps, .int m_readChildren, .ref a_m_hearers, .ref a_m_chosen, .int m_chosenMany, .ref a_m_dues, .ref a_m_sights, .int m_seenMany])), (a_m_text, .inl (cI, 200, .inl m_text)), (a_m_read, .inl (cI, 60, .inl g18))] H locs → lv_has ls 2 [(0, .ref a_m), (1, .int v1)] → W p l e rm_X9_readsLine s m args below meth c H locs 0 0 Q (F0 m 128 ls [.int y36, .ref a_m]) := by
                  intro y36 hF H locs ls hw hl
                  replace hF := hK37 y36 hF
                  refine kPut (ci := 9) (ws' := [(a_m, .inr (9, [.ref a_m_row, .ref a_m_isKept, .ref a_m_text, .int m_length, .ref a_m_read, .int m_readMany, .int m_yards, .ref a_m_tides, .ref a_m_seeps, .int m_seepMany, .ref a_m_kinds, .ref a_m_paces, .ref a_m_ears, .int m_many, .int g15, .int g16, .int g17, .int y21, .int y36, .int m_readChildren, .ref a_m_hearers, .ref a_m_chosen, .int m_chosenMany, .ref a_m_dues, .ref a_m_sights, .int m_seenMany])), (a_m_text, .inl (cI, 200, .inl m_text)), (a_m_read, .inl (cI, 60, .inl g18))]) C in_X9 tyX9 tyX9_ok nmX9 hw 0 rfl rfl 18 (by decide) (C.2.2.2.2.2.2.1 _ q4_113) rfl rfl rfl rfl (Nat.le_of_ble_eq_true rfl) rfl (dq dt_X9_readsLine 72 rfl) (fun H locs hw => ?_)
                  refine lv_aload_n hx hb (dq dt_X9_readsLine 73 rfl) rfl (lv_at hl 0 rfl) ?_
                  refine lv_iload_n hx hb (dq dt_X9_readsLine 74 rfl) rfl (lv_at hl 1 rfl) ?_
                  obtain ⟨K38, hK38, hF⟩ := zj0_ hF
                  have J38 : K38 = some (r, m_readMany', m_at', m_place', m_end', m_readYards', m_readSeeps', m_readChildren', m_read') → ∀ (H : Heap) (locs : List Loc) (ls : Array Slot), kW D A s.heap [(a_m, .inr (9, [.ref a_m_row, .ref a_m_isKept, .ref a_m_text, .int m_length, .ref a_m_read, .int m_readMany, .int m_yards, .ref a_m_tides, .ref a_m_seeps, .int m_seepMany, .ref a_m_kinds, .ref a_m_paces, .ref a_m_ears, .int m_many, .int g15, .int g16, .int g17, .int y21, .int y36, .int m_readChildren, .ref a_m_hearers, .ref a_m_chosen, .int m_chosenMany, .ref a_m_dues, .ref a_m_sights, .int m_seenMany])), (a_m_text, .inl (cI, 200, .inl m_text)), (a_m_read, .inl (cI, 60, .inl g18))] H locs → lv_has ls 2 [(0, .ref a_m)] → W p l e rm_X9_readsLine s m args below meth c H locs 0 0 Q (F0 m 142 ls [.ref a_m]) := by
                    intro hF H locs ls hw hl
                    replace hF := hK38 hF
                    refine lv_iconst (v := (0 : Int32)) hx hb (dq dt_X9_readsLine 79 rfl) (by decide) ?_
                    refine lv_goto (tgt := 166) hx hb (dq dt_X9_readsLine 80 rfl) (by decide) ?_
                    refine kPut (ci := 9) (ws' := [(a_m, .inr (9, [.ref a_m_row, .ref a_m_isKept, .ref a_m_text, .int m_length, .ref a_m_read, .int m_readMany, .int m_yards, .ref a_m_tides, .ref a_m_seeps, .int m_seepMany, .ref a_m_kinds, .ref a_m_paces, .ref a_m_ears, .int m_many, .int g15, .int g16, .int g17, .int y21, .int y36, .int (0 : Int32), .ref a_m_hearers, .ref a_m_chosen, .int m_chosenMany, .ref a_m_dues, .ref a_m_sights, .int m_seenMany])), (a_m_text, .inl (cI, 200, .inl m_text)), (a_m_read, .inl (cI, 60, .inl g18))]) C in_X9 tyX9 tyX9_ok nmX9 hw 0 rfl rfl 19 (by decide) (C.2.2.2.2.2.2.1 _ q4_114) rfl rfl rfl rfl (Nat.le_of_ble_eq_true rfl) rfl (dq dt_X9_readsLine 91 rfl) (fun H locs hw => ?_)
                    refine lv_aload_n hx hb (dq dt_X9_readsLine 92 rfl) rfl (lv_at hl 0 rfl) ?_
                    refine lv_dup hx hb (dq dt_X9_readsLine 93 rfl) rfl ?_
                    refine kGet (ci := 9) C in_X9 hw 0 rfl rfl 5 (by decide) (C.2.2.2.2.2.2.1 _ q4_100) rfl rfl (dq dt_X9_readsLine 94 rfl) ?_
                    refine lv_iconst (v := (1 : Int32)) hx hb (dq dt_X9_readsLine 95 rfl) (by decide) ?_
                    refine lv_iadd hx hb (dq dt_X9_readsLine 96 rfl) ?_
                    obtain ⟨v39, ev39, hF⟩ := bd_ hF
                    refine kNmI ev39 ?_
                    refine kPut (ci := 9) (ws' := [(a_m, .inr (9, [.ref a_m_row, .ref a_m_isKept, .ref a_m_text, .int m_length, .ref a_m_read, .int v39, .int m_yards, .ref a_m_tides, .ref a_m_seeps, .int m_seepMany, .ref a_m_kinds, .ref a_m_paces, .ref a_m_ears, .int m_many, .int g15, .int g16, .int g17, .int y21, .int y36, .int (0 : Int32), .ref a_m_hearers, .ref a_m_chosen, .int m_chosenMany, .ref a_m_dues, .ref a_m_sights, .int m_seenMany])), (a_m_text, .inl (cI, 200, .inl m_text)), (a_m_read, .inl (cI, 60, .inl g18))]) C in_X9 tyX9 tyX9_ok nmX9 hw 0 rfl rfl 5 (by decide) (C.2.2.2.2.2.2.1 _ q4_100) rfl rfl rfl rfl (Nat.le_of_ble_eq_true rfl) rfl (dq dt_X9_readsLine 97 rfl) (fun H locs hw => ?_)
                    refine lv_iconst (v := (1 : Int32)) hx hb (dq dt_X9_readsLine 98 rfl) (by decide) ?_
                    cases hF
                    exact kRetZ hQ C rfl hw (dq dt_X9_readsLine 99 rfl)
                  refine lv_if_eq (tgt := 142) hx hb (dq dt_X9_readsLine 75 rfl) (by decide) (fun c40 => ?_) (fun c40 => ?_)
                  · replace hF := if_t c40 hF
                    exact J38 hF _ _ _ hw (lv_sub hl [0] rfl)
                  · replace hF := if_f c40 hF
                    refine lv_iload_n hx hb (dq dt_X9_readsLine 76 rfl) rfl (lv_at hl 1 rfl) ?_
                    refine lv_bipush (v := (8 : Int32)) hx hb (dq dt_X9_readsLine 77 rfl) (by decide) ?_
                    refine lv_icmp_ne (tgt := 146) hx hb (dq dt_X9_readsLine 78 rfl) (by decide) (fun c41 => ?_) (fun c41 => ?_)
                    · replace hF := if_f c41 hF
                      refine lv_iload_n hx hb (dq dt_X9_readsLine 81 rfl) rfl (lv_at hl 1 rfl) ?_
                      obtain ⟨v42, hr43, hF⟩ := zc1_ hF
                      refine kCallSP C hw (A_X9_isChildWord l D cB cI cJ cZ ad v1 v42 hr43) (va_cwS 1 C.2.2.2.2.2.2.1 (w0_S0 q4_225 q4_223 q4_224 q1_10) rfl rfl rfl ke_X9_isChildWord ⟨Nat.le_of_ble_eq_true rfl, Nat.le_of_ble_eq_true rfl⟩) hl.1 rfl rfl rfl (Nat.le_of_ble_eq_true rfl) ⟨Nat.le_of_ble_eq_true rfl, Nat.le_of_ble_eq_true rfl⟩ (dq dt_X9_readsLine 82 rfl) (fun H locs hw => ?_)
                      obtain ⟨K45, hK45, hF⟩ := zj1_ hF
                      have J45 : ∀ (y44 : Int32), K45 y44 = some (r, m_readMany', m_at', m_place', m_end', m_readYards', m_readSeeps', m_readChildren', m_read') → ∀ (H : Heap) (locs : List Loc) (ls : Array Slot), kW D A s.heap [(a_m, .inr (9, [.ref a_m_row, .ref a_m_isKept, .ref a_m_text, .int m_length, .ref a_m_read, .int m_readMany, .int m_yards, .ref a_m_tides, .ref a_m_seeps, .int m_seepMany, .ref a_m_kinds, .ref a_m_paces, .ref a_m_ears, .int m_many, .int g15, .int g16, .int g17, .int y21, .int y36, .int m_readChildren, .ref a_m_hearers, .ref a_m_chosen, .int m_chosenMany, .ref a_m_dues, .ref a_m_sights, .int m_seenMany])), (a_m_text, .inl (cI, 200, .inl m_text)), (a_m_read, .inl (cI, 60, .inl g18))] H locs → lv_has ls 2 [(0, .ref a_m)] → W p l e rm_X9_readsLine s m args below meth c H locs 0 0 Q (F0 m 166 ls [.int y44, .ref a_m]) := by
                        intro y44 hF H locs ls hw hl
                        replace hF := hK45 y44 hF
                        refine kPut (ci := 9) (ws' := [(a_m, .inr (9, [.ref a_m_row, .ref a_m_isKept, .ref a_m_text, .int m_length, .ref a_m_read, .int m_readMany, .int m_yards, .ref a_m_tides, .ref a_m_seeps, .int m_seepMany, .ref a_m_kinds, .ref a_m_paces, .ref a_m_ears, .int m_many, .int g15, .int g16, .int g17, .int y21, .int y36, .int y44, .ref a_m_hearers, .ref a_m_chosen, .int m_chosenMany, .ref a_m_dues, .ref a_m_sights, .int m_seenMany])), (a_m_text, .inl (cI, 200, .inl m_text)), (a_m_read, .inl (cI, 60, .inl g18))]) C in_X9 tyX9 tyX9_ok nmX9 hw 0 rfl rfl 19 (by decide) (C.2.2.2.2.2.2.1 _ q4_114) rfl rfl rfl rfl (Nat.le_of_ble_eq_true rfl) rfl (dq dt_X9_readsLine 91 rfl) (fun H locs hw => ?_)
                        refine lv_aload_n hx hb (dq dt_X9_readsLine 92 rfl) rfl (lv_at hl 0 rfl) ?_
                        refine lv_dup hx hb (dq dt_X9_readsLine 93 rfl) rfl ?_
                        refine kGet (ci := 9) C in_X9 hw 0 rfl rfl 5 (by decide) (C.2.2.2.2.2.2.1 _ q4_100) rfl rfl (dq dt_X9_readsLine 94 rfl) ?_
                        refine lv_iconst (v := (1 : Int32)) hx hb (dq dt_X9_readsLine 95 rfl) (by decide) ?_
                        refine lv_iadd hx hb (dq dt_X9_readsLine 96 rfl) ?_
                        obtain ⟨v46, ev46, hF⟩ := bd_ hF
                        refine kNmI ev46 ?_
                        refine kPut (ci := 9) (ws' := [(a_m, .inr (9, [.ref a_m_row, .ref a_m_isKept, .ref a_m_text, .int m_length, .ref a_m_read, .int v46, .int m_yards, .ref a_m_tides, .ref a_m_seeps, .int m_seepMany, .ref a_m_kinds, .ref a_m_paces, .ref a_m_ears, .int m_many, .int g15, .int g16, .int g17, .int y21, .int y36, .int y44, .ref a_m_hearers, .ref a_m_chosen, .int m_chosenMany, .ref a_m_dues, .ref a_m_sights, .int m_seenMany])), (a_m_text, .inl (cI, 200, .inl m_text)), (a_m_read, .inl (cI, 60, .inl g18))]) C in_X9 tyX9 tyX9_ok nmX9 hw 0 rfl rfl 5 (by decide) (C.2.2.2.2.2.2.1 _ q4_100) rfl rfl rfl rfl (Nat.le_of_ble_eq_true rfl) rfl (dq dt_X9_readsLine 97 rfl) (fun H locs hw => ?_)
                        refine lv_iconst (v := (1 : Int32)) hx hb (dq dt_X9_readsLine 98 rfl) (by decide) ?_
                        cases hF
                        exact kRetZ hQ C rfl hw (dq dt_X9_readsLine 99 rfl)
                      refine lv_if_eq (tgt := 162) hx hb (dq dt_X9_readsLine 83 rfl) (by decide) (fun c47 => ?_) (fun c47 => ?_)
                      · replace hF := if_t c47 hF
                        refine lv_aload_n hx hb (dq dt_X9_readsLine 89 rfl) rfl (lv_at hl 0 rfl) ?_
                        refine kGet (ci := 9) C in_X9 hw 0 rfl rfl 19 (by decide) (C.2.2.2.2.2.2.1 _ q4_114) rfl rfl (dq dt_X9_readsLine 90 rfl) ?_
                        exact J45 m_readChildren hF _ _ _ hw (lv_sub hl [0] rfl)
                      · replace hF := if_f c47 hF
                        refine lv_aload_n hx hb (dq dt_X9_readsLine 84 rfl) rfl (lv_at hl 0 rfl) ?_
                        refine kGet (ci := 9) C in_X9 hw 0 rfl rfl 19 (by decide) (C.2.2.2.2.2.2.1 _ q4_114) rfl rfl (dq dt_X9_readsLine 85 rfl) ?_
                        refine lv_iconst (v := (1 : Int32)) hx hb (dq dt_X9_readsLine 86 rfl) (by decide) ?_
                        refine lv_iadd hx hb (dq dt_X9_readsLine 87 rfl) ?_
                        refine lv_goto (tgt := 166) hx hb (dq dt_X9_readsLine 88 rfl) (by decide) ?_
                        exact J45 (m_readChildren + (1 : Int32)) hF _ _ _ hw (lv_sub hl [0] rfl)
                    · replace hF := if_t c41 hF
                      exact J38 hF _ _ _ hw (lv_sub hl [0] rfl)
                refine lv_icmp_ne (tgt := 124) hx hb (dq dt_X9_readsLine 64 rfl) (by decide) (fun c48 => ?_) (fun c48 => ?_)
                · replace hF := if_f c48 hF
                  refine lv_aload_n hx hb (dq dt_X9_readsLine 70 rfl) rfl (lv_at hl 0 rfl) ?_
                  refine kGet (ci := 9) C in_X9 hw 0 rfl rfl 18 (by decide) (C.2.2.2.2.2.2.1 _ q4_113) rfl rfl (dq dt_X9_readsLine 71 rfl) ?_
                  exact J37 m_readSeeps hF _ _ _ hw (lv_sub hl [0, 1] rfl)
                · replace hF := if_t c48 hF
                  refine lv_aload_n hx hb (dq dt_X9_readsLine 65 rfl) rfl (lv_at hl 0 rfl) ?_
                  refine kGet (ci := 9) C in_X9 hw 0 rfl rfl 18 (by decide) (C.2.2.2.2.2.2.1 _ q4_113) rfl rfl (dq dt_X9_readsLine 66 rfl) ?_
                  refine lv_iconst (v := (1 : Int32)) hx hb (dq dt_X9_readsLine 67 rfl) (by decide) ?_
                  refine lv_iadd hx hb (dq dt_X9_readsLine 68 rfl) ?_
                  refine lv_goto (tgt := 128) hx hb (dq dt_X9_readsLine 69 rfl) (by decide) ?_
                  exact J37 (m_readSeeps + (1 : Int32)) hF _ _ _ hw (lv_sub hl [0, 1] rfl)
              · replace hF := if_t c35 hF
                exact J23 hF _ _ _ hw (lv_sub hl [0, 1] rfl)
          refine lv_if_ne (tgt := 88) hx hb (dq dt_X9_readsLine 40 rfl) (by decide) (fun c49 => ?_) (fun c49 => ?_)
          · replace hF := if_f c49 hF
            refine lv_aload_n hx hb (dq dt_X9_readsLine 51 rfl) rfl (lv_at hl 0 rfl) ?_
            refine kGet (ci := 9) C in_X9 hw 0 rfl rfl 17 (by decide) (C.2.2.2.2.2.2.1 _ q4_112) rfl rfl (dq dt_X9_readsLine 52 rfl) ?_
            exact J22 m_readYards hF _ _ _ hw (lv_sub hl [0, 1] rfl)
          · replace hF := if_t c49 hF
            refine lv_aload_n hx hb (dq dt_X9_readsLine 41 rfl) rfl (lv_at hl 0 rfl) ?_
            refine kGet (ci := 9) C in_X9 hw 0 rfl rfl 4 (by decide) (C.2.2.2.2.2.2.1 _ q4_99) rfl rfl (dq dt_X9_readsLine 42 rfl) ?_
            refine lv_iconst (v := (5 : Int32)) hx hb (dq dt_X9_readsLine 43 rfl) (by decide) ?_
            refine lv_aload_n hx hb (dq dt_X9_readsLine 44 rfl) rfl (lv_at hl 0 rfl) ?_
            refine kGet (ci := 9) C in_X9 hw 0 rfl rfl 5 (by decide) (C.2.2.2.2.2.2.1 _ q4_100) rfl rfl (dq dt_X9_readsLine 45 rfl) ?_
            refine lv_imul hx hb (dq dt_X9_readsLine 46 rfl) ?_
            refine lv_iconst (v := (1 : Int32)) hx hb (dq dt_X9_readsLine 47 rfl) (by decide) ?_
            refine lv_iadd hx hb (dq dt_X9_readsLine 48 rfl) ?_
            obtain ⟨v50, ev50, hi51, hF⟩ := rd_ hF
            refine kIald C hw 2 1 rfl rfl hi51 ev50 (dq dt_X9_readsLine 49 rfl) ?_
            refine lv_goto (tgt := 92) hx hb (dq dt_X9_readsLine 50 rfl) (by decide) ?_
            exact J22 v50 hF _ _ _ hw (lv_sub hl [0, 1] rfl)
        · replace hF := if_t c20 hF
          refine lv_iconst (v := (0 : Int32)) hx hb (dq dt_X9_readsLine 36 rfl) (by decide) ?_
          cases hF
          exact kRetZ hQ C rfl hw (dq dt_X9_readsLine 37 rfl)
      refine lv_if_eq (tgt := 41) hx hb (dq dt_X9_readsLine 15 rfl) (by decide) (fun c52 => ?_) (fun c52 => ?_)
      · replace hF := if_t c52 hF
        exact J7 hF _ _ _ hw (lv_sub hl [0, 1] rfl)
      · replace hF := if_f c52 hF
        refine lv_aload_n hx hb (dq dt_X9_readsLine 16 rfl) rfl (lv_at hl 0 rfl) ?_
        refine kGet (ci := 9) C in_X9 hw 0 rfl rfl 19 (by decide) (C.2.2.2.2.2.2.1 _ q4_114) rfl rfl (dq dt_X9_readsLine 17 rfl) ?_
        refine lv_iconst (v := (5 : Int32)) hx hb (dq dt_X9_readsLine 18 rfl) (by decide) ?_
        refine lv_icmp_ne (tgt := 41) hx hb (dq dt_X9_readsLine 19 rfl) (by decide) (fun c53 => ?_) (fun c53 => ?_)
        · replace hF := if_f c53 hF
          exact J7 hF _ _ _ hw (lv_sub hl [0, 1] rfl)
        · replace hF := if_t c53 hF
          refine lv_iconst (v := (0 : Int32)) hx hb (dq dt_X9_readsLine 20 rfl) (by decide) ?_
          cases hF
          exact kRetZ hQ C rfl hw (dq dt_X9_readsLine 21 rfl)
    refine lv_icmp_ne (tgt := 24) hx hb (dq dt_X9_readsLine 8 rfl) (by decide) (fun c54 => ?_) (fun c54 => ?_)
    · replace hF := if_f c54 hF
      exact J4 hF _ _ _ hw (lv_sub hl [1, 0] rfl)
    · replace hF := if_t c54 hF
      refine lv_aload_n hx hb (dq dt_X9_readsLine 9 rfl) rfl (lv_at hl 1 rfl) ?_
      refine kGet (ci := 9) C in_X9 hw 0 rfl rfl 18 (by decide) (C.2.2.2.2.2.2.1 _ q4_113) rfl rfl (dq dt_X9_readsLine 10 rfl) ?_
      refine lv_bipush (v := (6 : Int32)) hx hb (dq dt_X9_readsLine 11 rfl) (by decide) ?_
      refine lv_icmp_eq (tgt := 39) hx hb (dq dt_X9_readsLine 12 rfl) (by decide) (fun c55 => ?_) (fun c55 => ?_)
      · replace hF := if_t c55 hF
        refine lv_iconst (v := (0 : Int32)) hx hb (dq dt_X9_readsLine 20 rfl) (by decide) ?_
        cases hF
        exact kRetZ hQ C rfl hw (dq dt_X9_readsLine 21 rfl)
      · replace hF := if_f c55 hF
        exact J4 hF _ _ _ hw (lv_sub hl [1, 0] rfl)
def F_X9_fault (m_length : Int32) (m_readMany : Int32) (m_yards : Int32) (m_seepMany : Int32) (m_many : Int32) (m_at : Int32) (m_place : Int32) (m_end : Int32) (m_readYards : Int32) (m_readSeeps : Int32) (m_readChildren : Int32) (m_text : Nat → Int32) (m_read : Nat → Int32) : Option (Int32 × Int32 × Int32 × Int32 × Int32 × Int32 × Int32 × Int32 × (Nat → Int32)) :=
  zc3 (F_X9_token m_length (0 : Int32) m_place m_end m_text) (fun g1 g2 g3 => zc9 (F_X9_readsLine m_length (0 : Int32) g1 g2 g3 m_yards m_seepMany m_many m_text m_read) (fun v5 g6 g7 g8 g9 g10 g11 g12 g13 => if v5 = 0 then (some (g8, g6, g7, g8, g9, g10, g11, g12, g13)) else (zl8 (fun h16 h17 h18 h19 h20 h21 h22 h23 ag24 => if m_length ≤ h18 then (some ((-1 : Int32), h16, h17, h18, h19, h20, h21, h22, h23)) else (zj1 (fun y26 => zj9 (fun x28 h29 h30 h31 h32 h33 h34 h35 h36 => if x28 = 0 then (some (h31, h29, h30, h31, h32, h33, h34, h35, h36)) else (ag24 h29 h30 h31 h32 h33 h34 h35 h36)) (fun K37 => if y26 = 0 then (K37 y26 h16 h17 h18 h19 h20 h21 h22 h23) else (zc3 (F_X9_token m_length h17 h18 h19 m_text) (fun g40 g41 g42 => zc9 (F_X9_readsLine m_length h16 g40 g41 g42 h20 h21 h22 m_text h23) (fun v44 g45 g46 g47 g48 g49 g50 g51 g52 => K37 v44 g45 g46 g47 g48 g49 g50 g51 g52))))) (fun K27 => if (h19 - h18) = (1 : Int32) then (rd 200 m_text h18 (fun v55 => if v55 = (59 : Int32) then (if (12 : Int32) ≤ h16 then (K27 (0 : Int32)) else (K27 (1 : Int32))) else (K27 (0 : Int32)))) else (K27 (0 : Int32))))) FU g6 g7 g8 g9 g10 g11 g12 g13)))
abbrev rm_X9_fault : Room := { frames := 5, cells := 0, slots := 0, locals := 108 }
theorem kd_X9_fault : yX9_fault.cls = RX9 ∧ yX9_fault.cls ≠ "java/lang/invoke/MethodHandle" ∧ yX9_fault.cls ≠ "java/lang/invoke/VarHandle" ∧ (parseMethodDescriptor yX9_fault.desc).map (fun d => d.parameters.length) = some 0 := by decide +kernel
set_option maxRecDepth 100000 in
set_option maxHeartbeats 4000000 in
theorem A_X9_fault (l : Launch) (D : va_G) (cB cI cJ cZ : ClassId) (ad : (Nat → Nat) × (Nat → Nat)) (a_m a_m_row a_m_isKept a_m_text a_m_read a_m_tides a_m_seeps a_m_kinds a_m_paces a_m_ears a_m_hearers a_m_chosen a_m_dues a_m_sights : Nat) (m_length : Int32) (m_readMany : Int32) (m_yards : Int32) (m_seepMany : Int32) (m_many : Int32) (m_at : Int32) (m_place : Int32) (m_end : Int32) (m_readYards : Int32) (m_readSeeps : Int32) (m_readChildren : Int32) (m_chosenMany : Int32) (m_seenMany : Int32) (m_text : Nat → Int32) (m_read : Nat → Int32) (r : Int32) (m_readMany' : Int32) (m_at' : Int32) (m_place' : Int32) (m_end' : Int32) (m_readYards' : Int32) (m_readSeeps' : Int32) (m_readChildren' : Int32) (m_read' : Nat → Int32) (hF : F_X9_fault m_length m_readMany m_yards m_seepMany m_many m_at m_place m_end m_readYards m_readSeeps m_readChildren m_text m_read = some (r, m_readMany', m_at', m_place', m_end', m_readYards', m_readSeeps', m_readChildren', m_read')) : kM l yX9_fault (Cond.code yX9_fault cX9_fault 2 (some .int) :: W0) rm_X9_fault D (kT cB cI cJ cZ) ad [.ref a_m] [(a_m, .inr (9, [.ref a_m_row, .ref a_m_isKept, .ref a_m_text, .int m_length, .ref a_m_read, .int m_readMany, .int m_yards, .ref a_m_tides, .ref a_m_seeps, .int m_seepMany, .ref a_m_kinds, .ref a_m_paces, .ref a_m_ears, .int m_many, .int m_at, .int m_place, .int m_end, .int m_readYards, .int m_readSeeps, .int m_readChildren, .ref a_m_hearers, .ref a_m_chosen, .int m_chosenMany, .ref a_m_dues, .ref a_m_sights, .int m_seenMany])), (a_m_text, .inl (cI, 200, .inl m_text)), (a_m_read, .inl (cI, 60, .inl m_read))] (some (.int r)) [(a_m, .inr (9, [.ref a_m_row, .ref a_m_isKept, .ref a_m_text, .int m_length, .ref a_m_read, .int (m_readMany'), .int m_yards, .ref a_m_tides, .ref a_m_seeps, .int m_seepMany, .ref a_m_kinds, .ref a_m_paces, .ref a_m_ears, .int m_many, .int (m_at'), .int (m_place'), .int (m_end'), .int (m_readYards'), .int (m_readSeeps'), .int (m_readChildren'), .ref a_m_hearers, .ref a_m_chosen, .int m_chosenMany, .ref a_m_dues, .ref a_m_sights, .int m_seenMany])), (a_m_text, .inl (cI, 200, .inl m_text)), (a_m_read, .inl (cI, 60, .inl (m_read')))] := by
  unfold F_X9_fault at hF
  refine kStart (lv := [(0, .ref a_m)]) (own := "DikeWatchModel") (plainFor_of_name (by decide)) rfl (Nat.le_of_ble_eq_true rfl) rfl ?_
  intro p e s m args below meth c A Q ls hQ C hx hb hw hl
  refine lv_aload_n hx hb (dq dt_X9_fault 0 rfl) rfl (lv_at hl 0 rfl) ?_
  refine lv_iconst (v := (0 : Int32)) hx hb (dq dt_X9_fault 1 rfl) (by decide) ?_
  refine kPut (ci := 9) (ws' := [(a_m, .inr (9, [.ref a_m_row, .ref a_m_isKept, .ref a_m_text, .int m_length, .ref a_m_read, .int m_readMany, .int m_yards, .ref a_m_tides, .ref a_m_seeps, .int m_seepMany, .ref a_m_kinds, .ref a_m_paces, .ref a_m_ears, .int m_many, .int (0 : Int32), .int m_place, .int m_end, .int m_readYards, .int m_readSeeps, .int m_readChildren, .ref a_m_hearers, .ref a_m_chosen, .int m_chosenMany, .ref a_m_dues, .ref a_m_sights, .int m_seenMany])), (a_m_text, .inl (cI, 200, .inl m_text)), (a_m_read, .inl (cI, 60, .inl m_read))]) C in_X9 tyX9 tyX9_ok nmX9 hw 0 rfl rfl 14 (by decide) (C.2.2.2.2.2.2.1 _ q4_109) rfl rfl rfl rfl (Nat.le_of_ble_eq_true rfl) rfl (dq dt_X9_fault 2 rfl) (fun H locs hw => ?_)
  refine lv_aload_n hx hb (dq dt_X9_fault 3 rfl) rfl (lv_at hl 0 rfl) ?_
  refine lv_iconst (v := (0 : Int32)) hx hb (dq dt_X9_fault 4 rfl) (by decide) ?_
  refine kPut (ci := 9) (ws' := [(a_m, .inr (9, [.ref a_m_row, .ref a_m_isKept, .ref a_m_text, .int m_length, .ref a_m_read, .int (0 : Int32), .int m_yards, .ref a_m_tides, .ref a_m_seeps, .int m_seepMany, .ref a_m_kinds, .ref a_m_paces, .ref a_m_ears, .int m_many, .int (0 : Int32), .int m_place, .int m_end, .int m_readYards, .int m_readSeeps, .int m_readChildren, .ref a_m_hearers, .ref a_m_chosen, .int m_chosenMany, .ref a_m_dues, .ref a_m_sights, .int m_seenMany])), (a_m_text, .inl (cI, 200, .inl m_text)), (a_m_read, .inl (cI, 60, .inl m_read))]) C in_X9 tyX9 tyX9_ok nmX9 hw 0 rfl rfl 5 (by decide) (C.2.2.2.2.2.2.1 _ q4_100) rfl rfl rfl rfl (Nat.le_of_ble_eq_true rfl) rfl (dq dt_X9_fault 5 rfl) (fun H locs hw => ?_)
  refine lv_aload_n hx hb (dq dt_X9_fault 6 rfl) rfl (lv_at hl 0 rfl) ?_
  refine lv_aload_n hx hb (dq dt_X9_fault 7 rfl) rfl (lv_at hl 0 rfl) ?_
  refine kGet (ci := 9) C in_X9 hw 0 rfl rfl 6 (by decide) (C.2.2.2.2.2.2.1 _ q4_101) rfl rfl (dq dt_X9_fault 8 rfl) ?_
  refine kPut (ci := 9) (ws' := [(a_m, .inr (9, [.ref a_m_row, .ref a_m_isKept, .ref a_m_text, .int m_length, .ref a_m_read, .int (0 : Int32), .int m_yards, .ref a_m_tides, .ref a_m_seeps, .int m_seepMany, .ref a_m_kinds, .ref a_m_paces, .ref a_m_ears, .int m_many, .int (0 : Int32), .int m_place, .int m_end, .int m_yards, .int m_readSeeps, .int m_readChildren, .ref a_m_hearers, .ref a_m_chosen, .int m_chosenMany, .ref a_m_dues, .ref a_m_sights, .int m_seenMany])), (a_m_text, .inl (cI, 200, .inl m_text)), (a_m_read, .inl (cI, 60, .inl m_read))]) C in_X9 tyX9 tyX9_ok nmX9 hw 0 rfl rfl 17 (by decide) (C.2.2.2.2.2.2.1 _ q4_112) rfl rfl rfl rfl (Nat.le_of_ble_eq_true rfl) rfl (dq dt_X9_fault 9 rfl) (fun H locs hw => ?_)
  refine lv_aload_n hx hb (dq dt_X9_fault 10 rfl) rfl (lv_at hl 0 rfl) ?_
  refine lv_aload_n hx hb (dq dt_X9_fault 11 rfl) rfl (lv_at hl 0 rfl) ?_
  refine kGet (ci := 9) C in_X9 hw 0 rfl rfl 9 (by decide) (C.2.2.2.2.2.2.1 _ q4_104) rfl rfl (dq dt_X9_fault 12 rfl) ?_
  refine kPut (ci := 9) (ws' := [(a_m, .inr (9, [.ref a_m_row, .ref a_m_isKept, .ref a_m_text, .int m_length, .ref a_m_read, .int (0 : Int32), .int m_yards, .ref a_m_tides, .ref a_m_seeps, .int m_seepMany, .ref a_m_kinds, .ref a_m_paces, .ref a_m_ears, .int m_many, .int (0 : Int32), .int m_place, .int m_end, .int m_yards, .int m_seepMany, .int m_readChildren, .ref a_m_hearers, .ref a_m_chosen, .int m_chosenMany, .ref a_m_dues, .ref a_m_sights, .int m_seenMany])), (a_m_text, .inl (cI, 200, .inl m_text)), (a_m_read, .inl (cI, 60, .inl m_read))]) C in_X9 tyX9 tyX9_ok nmX9 hw 0 rfl rfl 18 (by decide) (C.2.2.2.2.2.2.1 _ q4_113) rfl rfl rfl rfl (Nat.le_of_ble_eq_true rfl) rfl (dq dt_X9_fault 13 rfl) (fun H locs hw => ?_)
  refine lv_aload_n hx hb (dq dt_X9_fault 14 rfl) rfl (lv_at hl 0 rfl) ?_
  refine lv_aload_n hx hb (dq dt_X9_fault 15 rfl) rfl (lv_at hl 0 rfl) ?_
  refine kGet (ci := 9) C in_X9 hw 0 rfl rfl 13 (by decide) (C.2.2.2.2.2.2.1 _ q4_108) rfl rfl (dq dt_X9_fault 16 rfl) ?_
  refine kPut (ci := 9) (ws' := [(a_m, .inr (9, [.ref a_m_row, .ref a_m_isKept, .ref a_m_text, .int m_length, .ref a_m_read, .int (0 : Int32), .int m_yards, .ref a_m_tides, .ref a_m_seeps, .int m_seepMany, .ref a_m_kinds, .ref a_m_paces, .ref a_m_ears, .int m_many, .int (0 : Int32), .int m_place, .int m_end, .int m_yards, .int m_seepMany, .int m_many, .ref a_m_hearers, .ref a_m_chosen, .int m_chosenMany, .ref a_m_dues, .ref a_m_sights, .int m_seenMany])), (a_m_text, .inl (cI, 200, .inl m_text)), (a_m_read, .inl (cI, 60, .inl m_read))]) C in_X9 tyX9 tyX9_ok nmX9 hw 0 rfl rfl 19 (by decide) (C.2.2.2.2.2.2.1 _ q4_114) rfl rfl rfl rfl (Nat.le_of_ble_eq_true rfl) rfl (dq dt_X9_fault 17 rfl) (fun H locs hw => ?_)
  refine lv_aload_n hx hb (dq dt_X9_fault 18 rfl) rfl (lv_at hl 0 rfl) ?_
  obtain ⟨g1, g2, g3, hr4, hF⟩ := zc3_ hF
  refine kCallV (ws2 := [(a_m, .inr (9, [.ref a_m_row, .ref a_m_isKept, .ref a_m_text, .int m_length, .ref a_m_read, .int (0 : Int32), .int m_yards, .ref a_m_tides, .ref a_m_seeps, .int m_seepMany, .ref a_m_kinds, .ref a_m_paces, .ref a_m_ears, .int m_many, .int g1, .int g2, .int g3, .int m_yards, .int m_seepMany, .int m_many, .ref a_m_hearers, .ref a_m_chosen, .int m_chosenMany, .ref a_m_dues, .ref a_m_sights, .int m_seenMany])), (a_m_text, .inl (cI, 200, .inl m_text)), (a_m_read, .inl (cI, 60, .inl m_read))]) C hw (A_X9_token l D cB cI cJ cZ ad a_m a_m_row a_m_isKept a_m_text a_m_read a_m_tides a_m_seeps a_m_kinds a_m_paces a_m_ears a_m_hearers a_m_chosen a_m_dues a_m_sights m_length (0 : Int32) m_yards m_seepMany m_many (0 : Int32) m_place m_end m_yards m_seepMany m_many m_chosenMany m_seenMany m_text g1 g2 g3 hr4) (cwV 0 C.2.2.2.2.2.2.1 (w0_V0 q4_195 q4_192 q4_194 (ws0 22 rfl) q1_10) rfl rfl rfl kd_X9_token ⟨Nat.le_of_ble_eq_true rfl, Nat.le_of_ble_eq_true rfl⟩) [0, 1] rfl rfl rfl rfl 0 9 rfl rfl hl.1 rfl rfl rfl (Nat.le_of_ble_eq_true rfl) ⟨Nat.le_of_ble_eq_true rfl, Nat.le_of_ble_eq_true rfl⟩ (dq dt_X9_fault 19 rfl) (fun H locs hw => ?_)
  refine lv_aload_n hx hb (dq dt_X9_fault 20 rfl) rfl (lv_at hl 0 rfl) ?_
  obtain ⟨v5, g6, g7, g8, g9, g10, g11, g12, g13, hr14, hF⟩ := zc9_ hF
  refine kCallV (ws2 := [(a_m, .inr (9, [.ref a_m_row, .ref a_m_isKept, .ref a_m_text, .int m_length, .ref a_m_read, .int g6, .int m_yards, .ref a_m_tides, .ref a_m_seeps, .int m_seepMany, .ref a_m_kinds, .ref a_m_paces, .ref a_m_ears, .int m_many, .int g7, .int g8, .int g9, .int g10, .int g11, .int g12, .ref a_m_hearers, .ref a_m_chosen, .int m_chosenMany, .ref a_m_dues, .ref a_m_sights, .int m_seenMany])), (a_m_text, .inl (cI, 200, .inl m_text)), (a_m_read, .inl (cI, 60, .inl g13))]) C hw (A_X9_readsLine l D cB cI cJ cZ ad a_m a_m_row a_m_isKept a_m_text a_m_read a_m_tides a_m_seeps a_m_kinds a_m_paces a_m_ears a_m_hearers a_m_chosen a_m_dues a_m_sights m_length (0 : Int32) m_yards m_seepMany m_many g1 g2 g3 m_yards m_seepMany m_many m_chosenMany m_seenMany m_text m_read v5 g6 g7 g8 g9 g10 g11 g12 g13 hr14) (cwV 0 C.2.2.2.2.2.2.1 (w0_V0 q4_202 q4_199 q4_201 (ws0 23 rfl) q1_10) rfl rfl rfl kd_X9_readsLine ⟨Nat.le_of_ble_eq_true rfl, Nat.le_of_ble_eq_true rfl⟩) [0, 1, 2] rfl rfl rfl rfl 0 9 rfl rfl hl.1 rfl rfl rfl (Nat.le_of_ble_eq_true rfl) ⟨Nat.le_of_ble_eq_true rfl, Nat.le_of_ble_eq_true rfl⟩ (dq dt_X9_fault 21 rfl) (fun H locs hw => ?_)
  refine lv_if_ne (tgt := 50) hx hb (dq dt_X9_fault 22 rfl) (by decide) (fun c15 => ?_) (fun c15 => ?_)
  · replace hF := if_f c15 hF
    obtain ⟨K24, hK024, hK24, hF⟩ := zl8_ hF
    have L24 : ∀ (n : Nat) (h16 : Int32) (h17 : Int32) (h18 : Int32) (h19 : Int32) (h20 : Int32) (h21 : Int32) (h22 : Int32) (h23 : Nat → Int32), K24 n h16 h17 h18 h19 h20 h21 h22 h23 = some (r, m_readMany', m_at', m_place', m_end', m_readYards', m_readSeeps', m_readChildren', m_read') → ∀ (H : Heap) (locs : List Loc) (ls : Array Slot), kW D A s.heap [(a_m, .inr (9, [.ref a_m_row, .ref a_m_isKept, .ref a_m_text, .int m_length, .ref a_m_read, .int h16, .int m_yards, .ref a_m_tides, .ref a_m_seeps, .int m_seepMany, .ref a_m_kinds, .ref a_m_paces, .ref a_m_ears, .int m_many, .int h17, .int h18, .int h19, .int h20, .int h21, .int h22, .ref a_m_hearers, .ref a_m_chosen, .int m_chosenMany, .ref a_m_dues, .ref a_m_sights, .int m_seenMany])), (a_m_text, .inl (cI, 200, .inl m_text)), (a_m_read, .inl (cI, 60, .inl h23))] H locs → lv_has ls 2 [(0, .ref a_m)] → W p l e rm_X9_fault s m args below meth c H locs 0 0 Q (F0 m 50 ls []) := by
      intro n
      induction n with
      | zero => intro h16 h17 h18 h19 h20 h21 h22 h23 hF; exact (lp_no (hK024 h16 h17 h18 h19 h20 h21 h22 h23) hF).elim
      | succ n ih24 =>
        intro h16 h17 h18 h19 h20 h21 h22 h23 hF H locs ls hw hl
        replace hF := hK24 n h16 h17 h18 h19 h20 h21 h22 h23 hF
        refine lv_aload_n hx hb (dq dt_X9_fault 26 rfl) rfl (lv_at hl 0 rfl) ?_
        refine kGet (ci := 9) C in_X9 hw 0 rfl rfl 15 (by decide) (C.2.2.2.2.2.2.1 _ q4_110) rfl rfl (dq dt_X9_fault 27 rfl) ?_
        refine lv_aload_n hx hb (dq dt_X9_fault 28 rfl) rfl (lv_at hl 0 rfl) ?_
        refine kGet (ci := 9) C in_X9 hw 0 rfl rfl 3 (by decide) (C.2.2.2.2.2.2.1 _ q4_98) rfl rfl (dq dt_X9_fault 29 rfl) ?_
        refine lv_icmp_ge (tgt := 128) hx hb (dq dt_X9_fault 30 rfl) (by decide) (fun c25 => ?_) (fun c25 => ?_)
        · replace hF := if_t c25 hF
          refine lv_iconst (v := (-1 : Int32)) hx hb (dq dt_X9_fault 66 rfl) (by decide) ?_
          cases hF
          exact kRetI hQ C hw (dq dt_X9_fault 67 rfl)
        · replace hF := if_f c25 hF
          refine lv_aload_n hx hb (dq dt_X9_fault 31 rfl) rfl (lv_at hl 0 rfl) ?_
          refine kGet (ci := 9) C in_X9 hw 0 rfl rfl 16 (by decide) (C.2.2.2.2.2.2.1 _ q4_111) rfl rfl (dq dt_X9_fault 32 rfl) ?_
          refine lv_aload_n hx hb (dq dt_X9_fault 33 rfl) rfl (lv_at hl 0 rfl) ?_
          refine kGet (ci := 9) C in_X9 hw 0 rfl rfl 15 (by decide) (C.2.2.2.2.2.2.1 _ q4_110) rfl rfl (dq dt_X9_fault 34 rfl) ?_
          refine lv_isub hx hb (dq dt_X9_fault 35 rfl) ?_
          refine lv_iconst (v := (1 : Int32)) hx hb (dq dt_X9_fault 36 rfl) (by decide) ?_
          obtain ⟨K27, hK27, hF⟩ := zj1_ hF
          have J27 : ∀ (y26 : Int32), K27 y26 = some (r, m_readMany', m_at', m_place', m_end', m_readYards', m_readSeeps', m_readChildren', m_read') → ∀ (H : Heap) (locs : List Loc) (ls : Array Slot), kW D A s.heap [(a_m, .inr (9, [.ref a_m_row, .ref a_m_isKept, .ref a_m_text, .int m_length, .ref a_m_read, .int h16, .int m_yards, .ref a_m_tides, .ref a_m_seeps, .int m_seepMany, .ref a_m_kinds, .ref a_m_paces, .ref a_m_ears, .int m_many, .int h17, .int h18, .int h19, .int h20, .int h21, .int h22, .ref a_m_hearers, .ref a_m_chosen, .int m_chosenMany, .ref a_m_dues, .ref a_m_sights, .int m_seenMany])), (a_m_text, .inl (cI, 200, .inl m_text)), (a_m_read, .inl (cI, 60, .inl h23))] H locs → lv_has ls 2 [(0, .ref a_m)] → W p l e rm_X9_fault s m args below meth c H locs 0 0 Q (F0 m 102 ls [.int y26]) := by
            intro y26 hF H locs ls hw hl
            replace hF := hK27 y26 hF
            refine lv_istore_n (lv' := [(1, .int y26), (0, .ref a_m)]) hx hb (dq dt_X9_fault 52 rfl) rfl hl (by decide) rfl (fun ls hl => ?_)
            refine lv_iload_n hx hb (dq dt_X9_fault 53 rfl) rfl (lv_at hl 0 rfl) ?_
            obtain ⟨K37, hK37, hF⟩ := zj9_ hF
            have J37 : ∀ (x28 : Int32) (h29 : Int32) (h30 : Int32) (h31 : Int32) (h32 : Int32) (h33 : Int32) (h34 : Int32) (h35 : Int32) (h36 : Nat → Int32), K37 x28 h29 h30 h31 h32 h33 h34 h35 h36 = some (r, m_readMany', m_at', m_place', m_end', m_readYards', m_readSeeps', m_readChildren', m_read') → ∀ (H : Heap) (locs : List Loc) (ls : Array Slot), kW D A s.heap [(a_m, .inr (9, [.ref a_m_row, .ref a_m_isKept, .ref a_m_text, .int m_length, .ref a_m_read, .int h29, .int m_yards, .ref a_m_tides, .ref a_m_seeps, .int m_seepMany, .ref a_m_kinds, .ref a_m_paces, .ref a_m_ears, .int m_many, .int h30, .int h31, .int h32, .int h33, .int h34, .int h35, .ref a_m_hearers, .ref a_m_chosen, .int m_chosenMany, .ref a_m_dues, .ref a_m_sights, .int m_seenMany])), (a_m_text, .inl (cI, 200, .inl m_text)), (a_m_read, .inl (cI, 60, .inl h36))] H locs → lv_has ls 2 [(0, .ref a_m), (1, .int x28)] → W p l e rm_X9_fault s m args below meth c H locs 0 0 Q (F0 m 116 ls []) := by
              intro x28 h29 h30 h31 h32 h33 h34 h35 h36 hF H locs ls hw hl
              replace hF := hK37 x28 h29 h30 h31 h32 h33 h34 h35 h36 hF
              refine lv_iload_n hx hb (dq dt_X9_fault 60 rfl) rfl (lv_at hl 1 rfl) ?_
              refine lv_if_ne (tgt := 125) hx hb (dq dt_X9_fault 61 rfl) (by decide) (fun c38 => ?_) (fun c38 => ?_)
              · replace hF := if_f c38 hF
                refine lv_goto (tgt := 50) hx hb (dq dt_X9_fault 65 rfl) (by decide) ?_
                exact ih24 h29 h30 h31 h32 h33 h34 h35 h36 hF _ _ _ hw (lv_sub hl [0] rfl)
              · replace hF := if_t c38 hF
                refine lv_aload_n hx hb (dq dt_X9_fault 62 rfl) rfl (lv_at hl 0 rfl) ?_
                refine kGet (ci := 9) C in_X9 hw 0 rfl rfl 15 (by decide) (C.2.2.2.2.2.2.1 _ q4_110) rfl rfl (dq dt_X9_fault 63 rfl) ?_
                cases hF
                exact kRetI hQ C hw (dq dt_X9_fault 64 rfl)
            refine lv_if_eq (tgt := 116) hx hb (dq dt_X9_fault 54 rfl) (by decide) (fun c39 => ?_) (fun c39 => ?_)
            · replace hF := if_t c39 hF
              exact J37 y26 h16 h17 h18 h19 h20 h21 h22 h23 hF _ _ _ hw (lv_sub hl [1, 0] rfl)
            · replace hF := if_f c39 hF
              refine lv_aload_n hx hb (dq dt_X9_fault 55 rfl) rfl (lv_at hl 1 rfl) ?_
              obtain ⟨g40, g41, g42, hr43, hF⟩ := zc3_ hF
              refine kCallV (ws2 := [(a_m, .inr (9, [.ref a_m_row, .ref a_m_isKept, .ref a_m_text, .int m_length, .ref a_m_read, .int h16, .int m_yards, .ref a_m_tides, .ref a_m_seeps, .int m_seepMany, .ref a_m_kinds, .ref a_m_paces, .ref a_m_ears, .int m_many, .int g40, .int g41, .int g42, .int h20, .int h21, .int h22, .ref a_m_hearers, .ref a_m_chosen, .int m_chosenMany, .ref a_m_dues, .ref a_m_sights, .int m_seenMany])), (a_m_text, .inl (cI, 200, .inl m_text)), (a_m_read, .inl (cI, 60, .inl h23))]) C hw (A_X9_token l D cB cI cJ cZ ad a_m a_m_row a_m_isKept a_m_text a_m_read a_m_tides a_m_seeps a_m_kinds a_m_paces a_m_ears a_m_hearers a_m_chosen a_m_dues a_m_sights m_length h16 m_yards m_seepMany m_many h17 h18 h19 h20 h21 h22 m_chosenMany m_seenMany m_text g40 g41 g42 hr43) (cwV 0 C.2.2.2.2.2.2.1 (w0_V0 q4_195 q4_192 q4_194 (ws0 22 rfl) q1_10) rfl rfl rfl kd_X9_token ⟨Nat.le_of_ble_eq_true rfl, Nat.le_of_ble_eq_true rfl⟩) [0, 1] rfl rfl rfl rfl 0 9 rfl rfl hl.1 rfl rfl rfl (Nat.le_of_ble_eq_true rfl) ⟨Nat.le_of_ble_eq_true rfl, Nat.le_of_ble_eq_true rfl⟩ (dq dt_X9_fault 56 rfl) (fun H locs hw => ?_)
              refine lv_aload_n hx hb (dq dt_X9_fault 57 rfl) rfl (lv_at hl 1 rfl) ?_
              obtain ⟨v44, g45, g46, g47, g48, g49, g50, g51, g52, hr53, hF⟩ := zc9_ hF
              refine kCallV (ws2 := [(a_m, .inr (9, [.ref a_m_row, .ref a_m_isKept, .ref a_m_text, .int m_length, .ref a_m_read, .int g45, .int m_yards, .ref a_m_tides, .ref a_m_seeps, .int m_seepMany, .ref a_m_kinds, .ref a_m_paces, .ref a_m_ears, .int m_many, .int g46, .int g47, .int g48, .int g49, .int g50, .int g51, .ref a_m_hearers, .ref a_m_chosen, .int m_chosenMany, .ref a_m_dues, .ref a_m_sights, .int m_seenMany])), (a_m_text, .inl (cI, 200, .inl m_text)), (a_m_read, .inl (cI, 60, .inl g52))]) C hw (A_X9_readsLine l D cB cI cJ cZ ad a_m a_m_row a_m_isKept a_m_text a_m_read a_m_tides a_m_seeps a_m_kinds a_m_paces a_m_ears a_m_hearers a_m_chosen a_m_dues a_m_sights m_length h16 m_yards m_seepMany m_many g40 g41 g42 h20 h21 h22 m_chosenMany m_seenMany m_text h23 v44 g45 g46 g47 g48 g49 g50 g51 g52 hr53) (cwV 0 C.2.2.2.2.2.2.1 (w0_V0 q4_202 q4_199 q4_201 (ws0 23 rfl) q1_10) rfl rfl rfl kd_X9_readsLine ⟨Nat.le_of_ble_eq_true rfl, Nat.le_of_ble_eq_true rfl⟩) [0, 1, 2] rfl rfl rfl rfl 0 9 rfl rfl hl.1 rfl rfl rfl (Nat.le_of_ble_eq_true rfl) ⟨Nat.le_of_ble_eq_true rfl, Nat.le_of_ble_eq_true rfl⟩ (dq dt_X9_fault 58 rfl) (fun H locs hw => ?_)
              refine lv_istore_n (lv' := [(1, .int v44), (0, .ref a_m)]) hx hb (dq dt_X9_fault 59 rfl) rfl hl (by decide) rfl (fun ls hl => ?_)
              exact J37 v44 g45 g46 g47 g48 g49 g50 g51 g52 hF _ _ _ hw (lv_sub hl [1, 0] rfl)
          refine lv_icmp_ne (tgt := 101) hx hb (dq dt_X9_fault 37 rfl) (by decide) (fun c54 => ?_) (fun c54 => ?_)
          · replace hF := if_f c54 hF
            refine lv_iconst (v := (0 : Int32)) hx hb (dq dt_X9_fault 51 rfl) (by decide) ?_
            exact J27 (0 : Int32) hF _ _ _ hw (lv_sub hl [0] rfl)
          · replace hF := if_t c54 hF
            refine lv_aload_n hx hb (dq dt_X9_fault 38 rfl) rfl (lv_at hl 0 rfl) ?_
            refine kGet (ci := 9) C in_X9 hw 0 rfl rfl 2 (by decide) (C.2.2.2.2.2.2.1 _ q4_97) rfl rfl (dq dt_X9_fault 39 rfl) ?_
            refine lv_aload_n hx hb (dq dt_X9_fault 40 rfl) rfl (lv_at hl 0 rfl) ?_
            refine kGet (ci := 9) C in_X9 hw 0 rfl rfl 15 (by decide) (C.2.2.2.2.2.2.1 _ q4_110) rfl rfl (dq dt_X9_fault 41 rfl) ?_
            obtain ⟨v55, ev55, hi56, hF⟩ := rd_ hF
            refine kIald C hw 1 1 rfl rfl hi56 ev55 (dq dt_X9_fault 42 rfl) ?_
            refine lv_bipush (v := (59 : Int32)) hx hb (dq dt_X9_fault 43 rfl) (by decide) ?_
            refine lv_icmp_ne (tgt := 101) hx hb (dq dt_X9_fault 44 rfl) (by decide) (fun c57 => ?_) (fun c57 => ?_)
            · replace hF := if_f c57 hF
              refine lv_iconst (v := (0 : Int32)) hx hb (dq dt_X9_fault 51 rfl) (by decide) ?_
              exact J27 (0 : Int32) hF _ _ _ hw (lv_sub hl [0] rfl)
            · replace hF := if_t c57 hF
              refine lv_aload_n hx hb (dq dt_X9_fault 45 rfl) rfl (lv_at hl 0 rfl) ?_
              refine kGet (ci := 9) C in_X9 hw 0 rfl rfl 5 (by decide) (C.2.2.2.2.2.2.1 _ q4_100) rfl rfl (dq dt_X9_fault 46 rfl) ?_
              refine lv_bipush (v := (12 : Int32)) hx hb (dq dt_X9_fault 47 rfl) (by decide) ?_
              refine lv_icmp_ge (tgt := 101) hx hb (dq dt_X9_fault 48 rfl) (by decide) (fun c58 => ?_) (fun c58 => ?_)
              · replace hF := if_t c58 hF
                refine lv_iconst (v := (0 : Int32)) hx hb (dq dt_X9_fault 51 rfl) (by decide) ?_
                exact J27 (0 : Int32) hF _ _ _ hw (lv_sub hl [0] rfl)
              · replace hF := if_f c58 hF
                refine lv_iconst (v := (1 : Int32)) hx hb (dq dt_X9_fault 49 rfl) (by decide) ?_
                refine lv_goto (tgt := 102) hx hb (dq dt_X9_fault 50 rfl) (by decide) ?_
                exact J27 (1 : Int32) hF _ _ _ hw (lv_sub hl [0] rfl)
    exact L24 _ g6 g7 g8 g9 g10 g11 g12 g13 hF _ _ _ hw (lv_sub hl [0] rfl)
  · replace hF := if_t c15 hF
    refine lv_aload_n hx hb (dq dt_X9_fault 23 rfl) rfl (lv_at hl 0 rfl) ?_
    refine kGet (ci := 9) C in_X9 hw 0 rfl rfl 15 (by decide) (C.2.2.2.2.2.2.1 _ q4_110) rfl rfl (dq dt_X9_fault 24 rfl) ?_
    cases hF
    exact kRetI hQ C hw (dq dt_X9_fault 25 rfl)
def F_X9_clear (m_yards : Int32) (m_seepMany : Int32) (m_many : Int32) (m_tides : Nat → Int32) (p1 : Int32) : Option (Int32 × Int32 × Int32 × (Nat → Int32)) :=
  zl2 (fun x1 h2 ag3 => if (12 : Int32) ≤ x1 then (some (p1, (0 : Int32), (0 : Int32), h2)) else (wr 12 x1 (upd h2 (x1).toNatClampNeg (0 : Int32)) (fun g5 => bd (x1 + (1 : Int32)) (fun v7 => ag3 v7 g5)))) FU (0 : Int32) m_tides
abbrev rm_X9_clear : Room := { frames := 0, cells := 0, slots := 0, locals := 0 }
theorem kd_X9_clear : yX9_clear.cls = RX9 ∧ yX9_clear.cls ≠ "java/lang/invoke/MethodHandle" ∧ yX9_clear.cls ≠ "java/lang/invoke/VarHandle" ∧ (parseMethodDescriptor yX9_clear.desc).map (fun d => d.parameters.length) = some 1 := by decide +kernel
set_option maxRecDepth 100000 in
set_option maxHeartbeats 4000000 in
theorem A_X9_clear (l : Launch) (D : va_G) (cB cI cJ cZ : ClassId) (ad : (Nat → Nat) × (Nat → Nat)) (a_m a_m_row a_m_isKept a_m_text a_m_read a_m_tides a_m_seeps a_m_kinds a_m_paces a_m_ears a_m_hearers a_m_chosen a_m_dues a_m_sights : Nat) (m_length : Int32) (m_readMany : Int32) (m_yards : Int32) (m_seepMany : Int32) (m_many : Int32) (m_at : Int32) (m_place : Int32) (m_end : Int32) (m_readYards : Int32) (m_readSeeps : Int32) (m_readChildren : Int32) (m_chosenMany : Int32) (m_seenMany : Int32) (m_tides : Nat → Int32) (p1 : Int32) (m_yards' : Int32) (m_seepMany' : Int32) (m_many' : Int32) (m_tides' : Nat → Int32) (hF : F_X9_clear m_yards m_seepMany m_many m_tides p1 = some (m_yards', m_seepMany', m_many', m_tides')) : kM l yX9_clear (Cond.code yX9_clear cX9_clear 3 (none) :: W0) rm_X9_clear D (kT cB cI cJ cZ) ad [.ref a_m, .int p1] [(a_m, .inr (9, [.ref a_m_row, .ref a_m_isKept, .ref a_m_text, .int m_length, .ref a_m_read, .int m_readMany, .int m_yards, .ref a_m_tides, .ref a_m_seeps, .int m_seepMany, .ref a_m_kinds, .ref a_m_paces, .ref a_m_ears, .int m_many, .int m_at, .int m_place, .int m_end, .int m_readYards, .int m_readSeeps, .int m_readChildren, .ref a_m_hearers, .ref a_m_chosen, .int m_chosenMany, .ref a_m_dues, .ref a_m_sights, .int m_seenMany])), (a_m_tides, .inl (cI, 12, .inl m_tides))] none [(a_m, .inr (9, [.ref a_m_row, .ref a_m_isKept, .ref a_m_text, .int m_length, .ref a_m_read, .int m_readMany, .int (m_yards'), .ref a_m_tides, .ref a_m_seeps, .int (m_seepMany'), .ref a_m_kinds, .ref a_m_paces, .ref a_m_ears, .int (m_many'), .int m_at, .int m_place, .int m_end, .int m_readYards, .int m_readSeeps, .int m_readChildren, .ref a_m_hearers, .ref a_m_chosen, .int m_chosenMany, .ref a_m_dues, .ref a_m_sights, .int m_seenMany])), (a_m_tides, .inl (cI, 12, .inl (m_tides')))] := by
  unfold F_X9_clear at hF
  refine kStart (lv := [(0, .ref a_m), (1, .int p1)]) (own := "DikeWatchModel") (plainFor_of_name (by decide)) rfl (Nat.le_of_ble_eq_true rfl) rfl ?_
  intro p e s m args below meth c A Q ls hQ C hx hb hw hl
  refine lv_aload_n hx hb (dq dt_X9_clear 0 rfl) rfl (lv_at hl 0 rfl) ?_
  refine lv_iload_n hx hb (dq dt_X9_clear 1 rfl) rfl (lv_at hl 1 rfl) ?_
  refine kPut (ci := 9) (ws' := [(a_m, .inr (9, [.ref a_m_row, .ref a_m_isKept, .ref a_m_text, .int m_length, .ref a_m_read, .int m_readMany, .int p1, .ref a_m_tides, .ref a_m_seeps, .int m_seepMany, .ref a_m_kinds, .ref a_m_paces, .ref a_m_ears, .int m_many, .int m_at, .int m_place, .int m_end, .int m_readYards, .int m_readSeeps, .int m_readChildren, .ref a_m_hearers, .ref a_m_chosen, .int m_chosenMany, .ref a_m_dues, .ref a_m_sights, .int m_seenMany])), (a_m_tides, .inl (cI, 12, .inl m_tides))]) C in_X9 tyX9 tyX9_ok nmX9 hw 0 rfl rfl 6 (by decide) (C.2.2.2.2.2.2.1 _ q4_101) rfl rfl rfl rfl (Nat.le_of_ble_eq_true rfl) rfl (dq dt_X9_clear 2 rfl) (fun H locs hw => ?_)
  refine lv_aload_n hx hb (dq dt_X9_clear 3 rfl) rfl (lv_at hl 0 rfl) ?_
  refine lv_iconst (v := (0 : Int32)) hx hb (dq dt_X9_clear 4 rfl) (by decide) ?_
  refine kPut (ci := 9) (ws' := [(a_m, .inr (9, [.ref a_m_row, .ref a_m_isKept, .ref a_m_text, .int m_length, .ref a_m_read, .int m_readMany, .int p1, .ref a_m_tides, .ref a_m_seeps, .int (0 : Int32), .ref a_m_kinds, .ref a_m_paces, .ref a_m_ears, .int m_many, .int m_at, .int m_place, .int m_end, .int m_readYards, .int m_readSeeps, .int m_readChildren, .ref a_m_hearers, .ref a_m_chosen, .int m_chosenMany, .ref a_m_dues, .ref a_m_sights, .int m_seenMany])), (a_m_tides, .inl (cI, 12, .inl m_tides))]) C in_X9 tyX9 tyX9_ok nmX9 hw 0 rfl rfl 9 (by decide) (C.2.2.2.2.2.2.1 _ q4_104) rfl rfl rfl rfl (Nat.le_of_ble_eq_true rfl) rfl (dq dt_X9_clear 5 rfl) (fun H locs hw => ?_)
  refine lv_aload_n hx hb (dq dt_X9_clear 6 rfl) rfl (lv_at hl 0 rfl) ?_
  refine lv_iconst (v := (0 : Int32)) hx hb (dq dt_X9_clear 7 rfl) (by decide) ?_
  refine kPut (ci := 9) (ws' := [(a_m, .inr (9, [.ref a_m_row, .ref a_m_isKept, .ref a_m_text, .int m_length, .ref a_m_read, .int m_readMany, .int p1, .ref a_m_tides, .ref a_m_seeps, .int (0 : Int32), .ref a_m_kinds, .ref a_m_paces, .ref a_m_ears, .int (0 : Int32), .int m_at, .int m_place, .int m_end, .int m_readYards, .int m_readSeeps, .int m_readChildren, .ref a_m_hearers, .ref a_m_chosen, .int m_chosenMany, .ref a_m_dues, .ref a_m_sights, .int m_seenMany])), (a_m_tides, .inl (cI, 12, .inl m_tides))]) C in_X9 tyX9 tyX9_ok nmX9 hw 0 rfl rfl 13 (by decide) (C.2.2.2.2.2.2.1 _ q4_108) rfl rfl rfl rfl (Nat.le_of_ble_eq_true rfl) rfl (dq dt_X9_clear 8 rfl) (fun H locs hw => ?_)
  refine lv_iconst (v := (0 : Int32)) hx hb (dq dt_X9_clear 9 rfl) (by decide) ?_
  refine lv_istore_n (lv' := [(2, .int (0 : Int32)), (0, .ref a_m), (1, .int p1)]) hx hb (dq dt_X9_clear 10 rfl) rfl hl (by decide) rfl (fun ls hl => ?_)
  obtain ⟨K3, hK03, hK3, hF⟩ := zl2_ hF
  have L3 : ∀ (n : Nat) (x1 : Int32) (h2 : Nat → Int32), K3 n x1 h2 = some (m_yards', m_seepMany', m_many', m_tides') → ∀ (H : Heap) (locs : List Loc) (ls : Array Slot), kW D A s.heap [(a_m, .inr (9, [.ref a_m_row, .ref a_m_isKept, .ref a_m_text, .int m_length, .ref a_m_read, .int m_readMany, .int p1, .ref a_m_tides, .ref a_m_seeps, .int (0 : Int32), .ref a_m_kinds, .ref a_m_paces, .ref a_m_ears, .int (0 : Int32), .int m_at, .int m_place, .int m_end, .int m_readYards, .int m_readSeeps, .int m_readChildren, .ref a_m_hearers, .ref a_m_chosen, .int m_chosenMany, .ref a_m_dues, .ref a_m_sights, .int m_seenMany])), (a_m_tides, .inl (cI, 12, .inl h2))] H locs → lv_has ls 3 [(0, .ref a_m), (2, .int x1)] → W p l e rm_X9_clear s m args below meth c H locs 0 0 Q (F0 m 17 ls []) := by
    intro n
    induction n with
    | zero => intro x1 h2 hF; exact (lp_no (hK03 x1 h2) hF).elim
    | succ n ih3 =>
      intro x1 h2 hF H locs ls hw hl
      replace hF := hK3 n x1 h2 hF
      refine lv_iload_n hx hb (dq dt_X9_clear 11 rfl) rfl (lv_at hl 1 rfl) ?_
      refine lv_bipush (v := (12 : Int32)) hx hb (dq dt_X9_clear 12 rfl) (by decide) ?_
      refine lv_icmp_ge (tgt := 36) hx hb (dq dt_X9_clear 13 rfl) (by decide) (fun c4 => ?_) (fun c4 => ?_)
      · replace hF := if_t c4 hF
        cases hF
        exact kRetV hQ C hw (dq dt_X9_clear 21 rfl)
      · replace hF := if_f c4 hF
        refine lv_aload_n hx hb (dq dt_X9_clear 14 rfl) rfl (lv_at hl 0 rfl) ?_
        refine kGet (ci := 9) C in_X9 hw 0 rfl rfl 7 (by decide) (C.2.2.2.2.2.2.1 _ q4_102) rfl rfl (dq dt_X9_clear 15 rfl) ?_
        refine lv_iload_n hx hb (dq dt_X9_clear 16 rfl) rfl (lv_at hl 1 rfl) ?_
        refine lv_iconst (v := (0 : Int32)) hx hb (dq dt_X9_clear 17 rfl) (by decide) ?_
        obtain ⟨g5, eg5, hi6, hF⟩ := wr_ hF
        refine kIast (ws' := [(a_m, .inr (9, [.ref a_m_row, .ref a_m_isKept, .ref a_m_text, .int m_length, .ref a_m_read, .int m_readMany, .int p1, .ref a_m_tides, .ref a_m_seeps, .int (0 : Int32), .ref a_m_kinds, .ref a_m_paces, .ref a_m_ears, .int (0 : Int32), .int m_at, .int m_place, .int m_end, .int m_readYards, .int m_readSeeps, .int m_readChildren, .ref a_m_hearers, .ref a_m_chosen, .int m_chosenMany, .ref a_m_dues, .ref a_m_sights, .int m_seenMany])), (a_m_tides, .inl (cI, 12, .inl g5))]) C hw 1 1 rfl rfl hi6 eg5 rfl (dq dt_X9_clear 18 rfl) (fun H locs hw => ?_)
        obtain ⟨v7, ev7, hF⟩ := bd_ hF
        refine lv_iinc (v := v7) (lv' := [(2, .int v7), (0, .ref a_m)]) hx hb (dq dt_X9_clear 19 rfl) hl (k := 1) rfl ev7.symm (by decide) rfl (fun ls hl => ?_)
        refine lv_goto (tgt := 17) hx hb (dq dt_X9_clear 20 rfl) (by decide) ?_
        exact ih3 v7 g5 hF _ _ _ hw (lv_sub hl [1, 0] rfl)
  exact L3 _ (0 : Int32) m_tides hF _ _ _ hw (lv_sub hl [1, 0] rfl)
def F_X9_tell (m_yards : Int32) (m_seepMany : Int32) (m_many : Int32) (m_row : Nat → Int32) (m_read : Nat → Int32) (m_tides : Nat → Int32) (m_seeps : Nat → Int32) (m_kinds : Nat → Int32) (m_paces : Nat → Int32) (m_ears : Nat → Int32) (p1 : Int32) : Option (Int32 × Int32 × Int32 × (Nat → Int32) × (Nat → Int32) × (Nat → Int32) × (Nat → Int32) × (Nat → Int32) × (Nat → Int32)) :=
  rd 60 m_read (p1 + (1 : Int32)) (fun v1 => rd 60 m_read p1 (fun v3 => if v3 = (0 : Int32) then (zc4 (F_X9_clear m_yards m_seepMany m_many m_tides v1) (fun g6 g7 g8 g9 => some (g6, g7, g8, m_row, g9, m_seeps, m_kinds, m_paces, m_ears))) else (if v3 = (1 : Int32) then (rd 60 m_read (p1 + (2 : Int32)) (fun v12 => wr 12 v1 (upd m_tides (v1).toNatClampNeg v12) (fun g14 => some (m_yards, m_seepMany, m_many, m_row, g14, m_seeps, m_kinds, m_paces, m_ears)))) else (if v3 = (2 : Int32) then (wr 18 ((3 : Int32) * m_seepMany) (upd m_seeps (((3 : Int32) * m_seepMany)).toNatClampNeg v1) (fun g17 => rd 60 m_read (p1 + (2 : Int32)) (fun v19 => wr 95 ((76 : Int32) + m_seepMany) (upd m_row (((76 : Int32) + m_seepMany)).toNatClampNeg v19) (fun g21 => rd 60 m_read (p1 + (3 : Int32)) (fun v23 => wr 18 (((3 : Int32) * m_seepMany) + (1 : Int32)) (upd g17 ((((3 : Int32) * m_seepMany) + (1 : Int32))).toNatClampNeg v23) (fun g25 => rd 60 m_read (p1 + (4 : Int32)) (fun v27 => wr 18 (((3 : Int32) * m_seepMany) + (2 : Int32)) (upd g25 ((((3 : Int32) * m_seepMany) + (2 : Int32))).toNatClampNeg v27) (fun g29 => bd (m_seepMany + (1 : Int32)) (fun v31 => some (m_yards, v31, m_many, g21, m_tides, g29, m_kinds, m_paces, m_ears)))))))))) else (if v3 = (3 : Int32) then (rd 60 m_read p1 (fun v33 => bd (v33 - (3 : Int32)) (fun v35 => wr 5 m_many (upd m_kinds (m_many).toNatClampNeg v35) (fun g36 => wr 95 ((83 : Int32) + m_many) (upd m_row (((83 : Int32) + m_many)).toNatClampNeg v1) (fun g38 => rd 60 m_read (p1 + (2 : Int32)) (fun v40 => wr 5 m_many (upd m_paces (m_many).toNatClampNeg v40) (fun g42 => rd 60 m_read (p1 + (3 : Int32)) (fun v44 => wr 5 m_many (upd m_ears (m_many).toNatClampNeg v44) (fun g46 => bd (m_many + (1 : Int32)) (fun v48 => some (m_yards, m_seepMany, v48, g38, m_tides, m_seeps, g36, g42, g46))))))))))) else (if v3 = (4 : Int32) then (rd 60 m_read p1 (fun v50 => bd (v50 - (3 : Int32)) (fun v52 => wr 5 m_many (upd m_kinds (m_many).toNatClampNeg v52) (fun g53 => wr 95 ((83 : Int32) + m_many) (upd m_row (((83 : Int32) + m_many)).toNatClampNeg v1) (fun g55 => rd 60 m_read (p1 + (2 : Int32)) (fun v57 => wr 5 m_many (upd m_paces (m_many).toNatClampNeg v57) (fun g59 => rd 60 m_read (p1 + (3 : Int32)) (fun v61 => wr 5 m_many (upd m_ears (m_many).toNatClampNeg v61) (fun g63 => bd (m_many + (1 : Int32)) (fun v65 => some (m_yards, m_seepMany, v65, g55, m_tides, m_seeps, g53, g59, g63))))))))))) else (if v3 = (5 : Int32) then (rd 60 m_read p1 (fun v67 => bd (v67 - (3 : Int32)) (fun v69 => wr 5 m_many (upd m_kinds (m_many).toNatClampNeg v69) (fun g70 => wr 95 ((83 : Int32) + m_many) (upd m_row (((83 : Int32) + m_many)).toNatClampNeg v1) (fun g72 => rd 60 m_read (p1 + (2 : Int32)) (fun v74 => wr 5 m_many (upd m_paces (m_many).toNatClampNeg v74) (fun g76 => rd 60 m_read (p1 + (3 : Int32)) (fun v78 => wr 5 m_many (upd m_ears (m_many).toNatClampNeg v78) (fun g80 => bd (m_many + (1 : Int32)) (fun v82 => some (m_yards, m_seepMany, v82, g72, m_tides, m_seeps, g70, g76, g80))))))))))) else (if v3 = (6 : Int32) then (rd 60 m_read p1 (fun v84 => bd (v84 - (3 : Int32)) (fun v86 => wr 5 m_many (upd m_kinds (m_many).toNatClampNeg v86) (fun g87 => wr 95 ((83 : Int32) + m_many) (upd m_row (((83 : Int32) + m_many)).toNatClampNeg v1) (fun g89 => rd 60 m_read (p1 + (2 : Int32)) (fun v91 => wr 5 m_many (upd m_paces (m_many).toNatClampNeg v91) (fun g93 => rd 60 m_read (p1 + (3 : Int32)) (fun v95 => wr 5 m_many (upd m_ears (m_many).toNatClampNeg v95) (fun g97 => bd (m_many + (1 : Int32)) (fun v99 => some (m_yards, m_seepMany, v99, g89, m_tides, m_seeps, g87, g93, g97))))))))))) else (if v3 = (7 : Int32) then (some (m_yards, (0 : Int32), m_many, m_row, m_tides, m_seeps, m_kinds, m_paces, m_ears)) else (if v3 = (8 : Int32) then (some (m_yards, m_seepMany, (0 : Int32), m_row, m_tides, m_seeps, m_kinds, m_paces, m_ears)) else (rd 60 m_read p1 (fun v102 => bd (v102 - (3 : Int32)) (fun v104 => wr 5 m_many (upd m_kinds (m_many).toNatClampNeg v104) (fun g105 => wr 95 ((83 : Int32) + m_many) (upd m_row (((83 : Int32) + m_many)).toNatClampNeg v1) (fun g107 => rd 60 m_read (p1 + (2 : Int32)) (fun v109 => wr 5 m_many (upd m_paces (m_many).toNatClampNeg v109) (fun g111 => rd 60 m_read (p1 + (3 : Int32)) (fun v113 => wr 5 m_many (upd m_ears (m_many).toNatClampNeg v113) (fun g115 => bd (m_many + (1 : Int32)) (fun v117 => some (m_yards, m_seepMany, v117, g107, m_tides, m_seeps, g105, g111, g115)))))))))))))))))))))
abbrev rm_X9_tell : Room := { frames := 1, cells := 0, slots := 0, locals := 22 }
theorem kd_X9_tell : yX9_tell.cls = RX9 ∧ yX9_tell.cls ≠ "java/lang/invoke/MethodHandle" ∧ yX9_tell.cls ≠ "java/lang/invoke/VarHandle" ∧ (parseMethodDescriptor yX9_tell.desc).map (fun d => d.parameters.length) = some 1 := by decide +kernel
set_option maxRecDepth 100000 in
set_option maxHeartbeats 4000000 in
theorem A_X9_tell (l : Launch) (D : va_G) (cB cI cJ cZ : ClassId) (ad : (Nat → Nat) × (Nat → Nat)) (a_m a_m_row a_m_isKept a_m_text a_m_read a_m_tides a_m_seeps a_m_kinds a_m_paces a_m_ears a_m_hearers a_m_chosen a_m_dues a_m_sights : Nat) (m_length : Int32) (m_readMany : Int32) (m_yards : Int32) (m_seepMany : Int32) (m_many : Int32) (m_at : Int32) (m_place : Int32) (m_end : Int32) (m_readYards : Int32) (m_readSeeps : Int32) (m_readChildren : Int32) (m_chosenMany : Int32) (m_seenMany : Int32) (m_row : Nat → Int32) (m_read : Nat → Int32) (m_tides : Nat → Int32) (m_seeps : Nat → Int32) (m_kinds : Nat → Int32) (m_paces : Nat → Int32) (m_ears : Nat → Int32) (p1 : Int32) (m_yards' : Int32) (m_seepMany' : Int32) (m_many' : Int32) (m_row' : Nat → Int32) (m_tides' : Nat → Int32) (m_seeps' : Nat → Int32) (m_kinds' : Nat → Int32) (m_paces' : Nat → Int32) (m_ears' : Nat → Int32) (hF : F_X9_tell m_yards m_seepMany m_many m_row m_read m_tides m_seeps m_kinds m_paces m_ears p1 = some (m_yards', m_seepMany', m_many', m_row', m_tides', m_seeps', m_kinds', m_paces', m_ears')) : kM l yX9_tell (Cond.code yX9_tell cX9_tell 3 (none) :: W0) rm_X9_tell D (kT cB cI cJ cZ) ad [.ref a_m, .int p1] [(a_m, .inr (9, [.ref a_m_row, .ref a_m_isKept, .ref a_m_text, .int m_length, .ref a_m_read, .int m_readMany, .int m_yards, .ref a_m_tides, .ref a_m_seeps, .int m_seepMany, .ref a_m_kinds, .ref a_m_paces, .ref a_m_ears, .int m_many, .int m_at, .int m_place, .int m_end, .int m_readYards, .int m_readSeeps, .int m_readChildren, .ref a_m_hearers, .ref a_m_chosen, .int m_chosenMany, .ref a_m_dues, .ref a_m_sights, .int m_seenMany])), (a_m_row, .inl (cI, 95, .inl m_row)), (a_m_read, .inl (cI, 60, .inl m_read)), (a_m_tides, .inl (cI, 12, .inl m_tides)), (a_m_seeps, .inl (cI, 18, .inl m_seeps)), (a_m_kinds, .inl (cI, 5, .inl m_kinds)), (a_m_paces, .inl (cI, 5, .inl m_paces)), (a_m_ears, .inl (cI, 5, .inl m_ears))] none [(a_m, .inr (9, [.ref a_m_row, .ref a_m_isKept, .ref a_m_text, .int m_length, .ref a_m_read, .int m_readMany, .int (m_yards'), .ref a_m_tides, .ref a_m_seeps, .int (m_seepMany'), .ref a_m_kinds, .ref a_m_paces, .ref a_m_ears, .int (m_many'), .int m_at, .int m_place, .int m_end, .int m_readYards, .int m_readSeeps, .int m_readChildren, .ref a_m_hearers, .ref a_m_chosen, .int m_chosenMany, .ref a_m_dues, .ref a_m_sights, .int m_seenMany])), (a_m_row, .inl (cI, 95, .inl (m_row'))), (a_m_read, .inl (cI, 60, .inl m_read)), (a_m_tides, .inl (cI, 12, .inl (m_tides'))), (a_m_seeps, .inl (cI, 18, .inl (m_seeps'))), (a_m_kinds, .inl (cI, 5, .inl (m_kinds'))), (a_m_paces, .inl (cI, 5, .inl (m_paces'))), (a_m_ears, .inl (cI, 5, .inl (m_ears')))] := by
  unfold F_X9_tell at hF
  refine kStart (lv := [(0, .ref a_m), (1, .int p1)]) (own := "DikeWatchModel") (plainFor_of_name (by decide)) rfl (Nat.le_of_ble_eq_true rfl) rfl ?_
  intro p e s m args below meth c A Q ls hQ C hx hb hw hl
  refine lv_aload_n hx hb (dq dt_X9_tell 0 rfl) rfl (lv_at hl 0 rfl) ?_
  refine kGet (ci := 9) C in_X9 hw 0 rfl rfl 4 (by decide) (C.2.2.2.2.2.2.1 _ q4_99) rfl rfl (dq dt_X9_tell 1 rfl) ?_
  refine lv_iload_n hx hb (dq dt_X9_tell 2 rfl) rfl (lv_at hl 1 rfl) ?_
  refine lv_iconst (v := (1 : Int32)) hx hb (dq dt_X9_tell 3 rfl) (by decide) ?_
  refine lv_iadd hx hb (dq dt_X9_tell 4 rfl) ?_
  obtain ⟨v1, ev1, hi2, hF⟩ := rd_ hF
  refine kIald C hw 2 1 rfl rfl hi2 ev1 (dq dt_X9_tell 5 rfl) ?_
  refine lv_istore_n (lv' := [(2, .int v1), (0, .ref a_m), (1, .int p1)]) hx hb (dq dt_X9_tell 6 rfl) rfl hl (by decide) rfl (fun ls hl => ?_)
  refine lv_aload_n hx hb (dq dt_X9_tell 7 rfl) rfl (lv_at hl 1 rfl) ?_
  refine kGet (ci := 9) C in_X9 hw 0 rfl rfl 4 (by decide) (C.2.2.2.2.2.2.1 _ q4_99) rfl rfl (dq dt_X9_tell 8 rfl) ?_
  refine lv_iload_n hx hb (dq dt_X9_tell 9 rfl) rfl (lv_at hl 2 rfl) ?_
  obtain ⟨v3, ev3, hi4, hF⟩ := rd_ hF
  refine kIald C hw 2 1 rfl rfl hi4 ev3 (dq dt_X9_tell 10 rfl) ?_
  by_cases c5 : v3 = (0 : Int32)
  · replace hF := if_t c5 hF
    refine lv_tableIn (lo := 0) (hi := 8) (tgt := 64) hx hb (dq dt_X9_tell 11 rfl) (by rw [c5]; decide) (by rw [c5]; decide) (by rw [c5]; rfl) (by decide) ?_
    refine lv_aload_n hx hb (dq dt_X9_tell 12 rfl) rfl (lv_at hl 1 rfl) ?_
    refine lv_iload_n hx hb (dq dt_X9_tell 13 rfl) rfl (lv_at hl 0 rfl) ?_
    obtain ⟨g6, g7, g8, g9, hr10, hF⟩ := zc4_ hF
    refine kCallV (ws2 := [(a_m, .inr (9, [.ref a_m_row, .ref a_m_isKept, .ref a_m_text, .int m_length, .ref a_m_read, .int m_readMany, .int g6, .ref a_m_tides, .ref a_m_seeps, .int g7, .ref a_m_kinds, .ref a_m_paces, .ref a_m_ears, .int g8, .int m_at, .int m_place, .int m_end, .int m_readYards, .int m_readSeeps, .int m_readChildren, .ref a_m_hearers, .ref a_m_chosen, .int m_chosenMany, .ref a_m_dues, .ref a_m_sights, .int m_seenMany])), (a_m_row, .inl (cI, 95, .inl m_row)), (a_m_read, .inl (cI, 60, .inl m_read)), (a_m_tides, .inl (cI, 12, .inl g9)), (a_m_seeps, .inl (cI, 18, .inl m_seeps)), (a_m_kinds, .inl (cI, 5, .inl m_kinds)), (a_m_paces, .inl (cI, 5, .inl m_paces)), (a_m_ears, .inl (cI, 5, .inl m_ears))]) C hw (A_X9_clear l D cB cI cJ cZ ad a_m a_m_row a_m_isKept a_m_text a_m_read a_m_tides a_m_seeps a_m_kinds a_m_paces a_m_ears a_m_hearers a_m_chosen a_m_dues a_m_sights m_length m_readMany m_yards m_seepMany m_many m_at m_place m_end m_readYards m_readSeeps m_readChildren m_chosenMany m_seenMany m_tides v1 g6 g7 g8 g9 hr10) (cwV 1 C.2.2.2.2.2.2.1 (w0_V0 q5_8 q5_5 q5_7 (ws0 30 rfl) q1_10) rfl rfl rfl kd_X9_clear ⟨Nat.le_of_ble_eq_true rfl, Nat.le_of_ble_eq_true rfl⟩) [0, 3] rfl rfl rfl rfl 0 9 rfl rfl hl.1 rfl rfl rfl (Nat.le_of_ble_eq_true rfl) ⟨Nat.le_of_ble_eq_true rfl, Nat.le_of_ble_eq_true rfl⟩ (dq dt_X9_tell 14 rfl) (fun H locs hw => ?_)
    cases hF
    exact kRetV hQ C hw (dq dt_X9_tell 15 rfl)
  replace hF := if_f c5 hF
  by_cases c11 : v3 = (1 : Int32)
  · replace hF := if_t c11 hF
    refine lv_tableIn (lo := 0) (hi := 8) (tgt := 70) hx hb (dq dt_X9_tell 11 rfl) (by rw [c11]; decide) (by rw [c11]; decide) (by rw [c11]; rfl) (by decide) ?_
    refine lv_aload_n hx hb (dq dt_X9_tell 16 rfl) rfl (lv_at hl 1 rfl) ?_
    refine kGet (ci := 9) C in_X9 hw 0 rfl rfl 7 (by decide) (C.2.2.2.2.2.2.1 _ q4_102) rfl rfl (dq dt_X9_tell 17 rfl) ?_
    refine lv_iload_n hx hb (dq dt_X9_tell 18 rfl) rfl (lv_at hl 0 rfl) ?_
    refine lv_aload_n hx hb (dq dt_X9_tell 19 rfl) rfl (lv_at hl 1 rfl) ?_
    refine kGet (ci := 9) C in_X9 hw 0 rfl rfl 4 (by decide) (C.2.2.2.2.2.2.1 _ q4_99) rfl rfl (dq dt_X9_tell 20 rfl) ?_
    refine lv_iload_n hx hb (dq dt_X9_tell 21 rfl) rfl (lv_at hl 2 rfl) ?_
    refine lv_iconst (v := (2 : Int32)) hx hb (dq dt_X9_tell 22 rfl) (by decide) ?_
    refine lv_iadd hx hb (dq dt_X9_tell 23 rfl) ?_
    obtain ⟨v12, ev12, hi13, hF⟩ := rd_ hF
    refine kIald C hw 2 1 rfl rfl hi13 ev12 (dq dt_X9_tell 24 rfl) ?_
    obtain ⟨g14, eg14, hi15, hF⟩ := wr_ hF
    refine kIast (ws' := [(a_m, .inr (9, [.ref a_m_row, .ref a_m_isKept, .ref a_m_text, .int m_length, .ref a_m_read, .int m_readMany, .int m_yards, .ref a_m_tides, .ref a_m_seeps, .int m_seepMany, .ref a_m_kinds, .ref a_m_paces, .ref a_m_ears, .int m_many, .int m_at, .int m_place, .int m_end, .int m_readYards, .int m_readSeeps, .int m_readChildren, .ref a_m_hearers, .ref a_m_chosen, .int m_chosenMany, .ref a_m_dues, .ref a_m_sights, .int m_seenMany])), (a_m_row, .inl (cI, 95, .inl m_row)), (a_m_read, .inl (cI, 60, .inl m_read)), (a_m_tides, .inl (cI, 12, .inl g14)), (a_m_seeps, .inl (cI, 18, .inl m_seeps)), (a_m_kinds, .inl (cI, 5, .inl m_kinds)), (a_m_paces, .inl (cI, 5, .inl m_paces)), (a_m_ears, .inl (cI, 5, .inl m_ears))]) C hw 3 1 rfl rfl hi15 eg14 rfl (dq dt_X9_tell 25 rfl) (fun H locs hw => ?_)
    cases hF
    exact kRetV hQ C hw (dq dt_X9_tell 26 rfl)
  replace hF := if_f c11 hF
  by_cases c16 : v3 = (2 : Int32)
  · replace hF := if_t c16 hF
    refine lv_tableIn (lo := 0) (hi := 8) (tgt := 85) hx hb (dq dt_X9_tell 11 rfl) (by rw [c16]; decide) (by rw [c16]; decide) (by rw [c16]; rfl) (by decide) ?_
    refine lv_aload_n hx hb (dq dt_X9_tell 27 rfl) rfl (lv_at hl 1 rfl) ?_
    refine kGet (ci := 9) C in_X9 hw 0 rfl rfl 8 (by decide) (C.2.2.2.2.2.2.1 _ q4_103) rfl rfl (dq dt_X9_tell 28 rfl) ?_
    refine lv_iconst (v := (3 : Int32)) hx hb (dq dt_X9_tell 29 rfl) (by decide) ?_
    refine lv_aload_n hx hb (dq dt_X9_tell 30 rfl) rfl (lv_at hl 1 rfl) ?_
    refine kGet (ci := 9) C in_X9 hw 0 rfl rfl 9 (by decide) (C.2.2.2.2.2.2.1 _ q4_104) rfl rfl (dq dt_X9_tell 31 rfl) ?_
    refine lv_imul hx hb (dq dt_X9_tell 32 rfl) ?_
    refine lv_iload_n hx hb (dq dt_X9_tell 33 rfl) rfl (lv_at hl 0 rfl) ?_
    obtain ⟨g17, eg17, hi18, hF⟩ := wr_ hF
    refine kIast (ws' := [(a_m, .inr (9, [.ref a_m_row, .ref a_m_isKept, .ref a_m_text, .int m_length, .ref a_m_read, .int m_readMany, .int m_yards, .ref a_m_tides, .ref a_m_seeps, .int m_seepMany, .ref a_m_kinds, .ref a_m_paces, .ref a_m_ears, .int m_many, .int m_at, .int m_place, .int m_end, .int m_readYards, .int m_readSeeps, .int m_readChildren, .ref a_m_hearers, .ref a_m_chosen, .int m_chosenMany, .ref a_m_dues, .ref a_m_sights, .int m_seenMany])), (a_m_row, .inl (cI, 95, .inl m_row)), (a_m_read, .inl (cI, 60, .inl m_read)), (a_m_tides, .inl (cI, 12, .inl m_tides)), (a_m_seeps, .inl (cI, 18, .inl g17)), (a_m_kinds, .inl (cI, 5, .inl m_kinds)), (a_m_paces, .inl (cI, 5, .inl m_paces)), (a_m_ears, .inl (cI, 5, .inl m_ears))]) C hw 4 1 rfl rfl hi18 eg17 rfl (dq dt_X9_tell 34 rfl) (fun H locs hw => ?_)
    refine lv_aload_n hx hb (dq dt_X9_tell 35 rfl) rfl (lv_at hl 1 rfl) ?_
    refine kGet (ci := 9) C in_X9 hw 0 rfl rfl 0 (by decide) (C.2.2.2.2.2.2.1 _ q4_95) rfl rfl (dq dt_X9_tell 36 rfl) ?_
    refine lv_bipush (v := (76 : Int32)) hx hb (dq dt_X9_tell 37 rfl) (by decide) ?_
    refine lv_aload_n hx hb (dq dt_X9_tell 38 rfl) rfl (lv_at hl 1 rfl) ?_
    refine kGet (ci := 9) C in_X9 hw 0 rfl rfl 9 (by decide) (C.2.2.2.2.2.2.1 _ q4_104) rfl rfl (dq dt_X9_tell 39 rfl) ?_
    refine lv_iadd hx hb (dq dt_X9_tell 40 rfl) ?_
    refine lv_aload_n hx hb (dq dt_X9_tell 41 rfl) rfl (lv_at hl 1 rfl) ?_
    refine kGet (ci := 9) C in_X9 hw 0 rfl rfl 4 (by decide) (C.2.2.2.2.2.2.1 _ q4_99) rfl rfl (dq dt_X9_tell 42 rfl) ?_
    refine lv_iload_n hx hb (dq dt_X9_tell 43 rfl) rfl (lv_at hl 2 rfl) ?_
    refine lv_iconst (v := (2 : Int32)) hx hb (dq dt_X9_tell 44 rfl) (by decide) ?_
    refine lv_iadd hx hb (dq dt_X9_tell 45 rfl) ?_
    obtain ⟨v19, ev19, hi20, hF⟩ := rd_ hF
    refine kIald C hw 2 1 rfl rfl hi20 ev19 (dq dt_X9_tell 46 rfl) ?_
    obtain ⟨g21, eg21, hi22, hF⟩ := wr_ hF
    refine kIast (ws' := [(a_m, .inr (9, [.ref a_m_row, .ref a_m_isKept, .ref a_m_text, .int m_length, .ref a_m_read, .int m_readMany, .int m_yards, .ref a_m_tides, .ref a_m_seeps, .int m_seepMany, .ref a_m_kinds, .ref a_m_paces, .ref a_m_ears, .int m_many, .int m_at, .int m_place, .int m_end, .int m_readYards, .int m_readSeeps, .int m_readChildren, .ref a_m_hearers, .ref a_m_chosen, .int m_chosenMany, .ref a_m_dues, .ref a_m_sights, .int m_seenMany])), (a_m_row, .inl (cI, 95, .inl g21)), (a_m_read, .inl (cI, 60, .inl m_read)), (a_m_tides, .inl (cI, 12, .inl m_tides)), (a_m_seeps, .inl (cI, 18, .inl g17)), (a_m_kinds, .inl (cI, 5, .inl m_kinds)), (a_m_paces, .inl (cI, 5, .inl m_paces)), (a_m_ears, .inl (cI, 5, .inl m_ears))]) C hw 1 1 rfl rfl hi22 eg21 rfl (dq dt_X9_tell 47 rfl) (fun H locs hw => ?_)
    refine lv_aload_n hx hb (dq dt_X9_tell 48 rfl) rfl (lv_at hl 1 rfl) ?_
    refine kGet (ci := 9) C in_X9 hw 0 rfl rfl 8 (by decide) (C.2.2.2.2.2.2.1 _ q4_103) rfl rfl (dq dt_X9_tell 49 rfl) ?_
    refine lv_iconst (v := (3 : Int32)) hx hb (dq dt_X9_tell 50 rfl) (by decide) ?_
    refine lv_aload_n hx hb (dq dt_X9_tell 51 rfl) rfl (lv_at hl 1 rfl) ?_
    refine kGet (ci := 9) C in_X9 hw 0 rfl rfl 9 (by decide) (C.2.2.2.2.2.2.1 _ q4_104) rfl rfl (dq dt_X9_tell 52 rfl) ?_
    refine lv_imul hx hb (dq dt_X9_tell 53 rfl) ?_
    refine lv_iconst (v := (1 : Int32)) hx hb (dq dt_X9_tell 54 rfl) (by decide) ?_
    refine lv_iadd hx hb (dq dt_X9_tell 55 rfl) ?_
    refine lv_aload_n hx hb (dq dt_X9_tell 56 rfl) rfl (lv_at hl 1 rfl) ?_
    refine kGet (ci := 9) C in_X9 hw 0 rfl rfl 4 (by decide) (C.2.2.2.2.2.2.1 _ q4_99) rfl rfl (dq dt_X9_tell 57 rfl) ?_
    refine lv_iload_n hx hb (dq dt_X9_tell 58 rfl) rfl (lv_at hl 2 rfl) ?_
    refine lv_iconst (v := (3 : Int32)) hx hb (dq dt_X9_tell 59 rfl) (by decide) ?_
    refine lv_iadd hx hb (dq dt_X9_tell 60 rfl) ?_
    obtain ⟨v23, ev23, hi24, hF⟩ := rd_ hF
    refine kIald C hw 2 1 rfl rfl hi24 ev23 (dq dt_X9_tell 61 rfl) ?_
    obtain ⟨g25, eg25, hi26, hF⟩ := wr_ hF
    refine kIast (ws' := [(a_m, .inr (9, [.ref a_m_row, .ref a_m_isKept, .ref a_m_text, .int m_length, .ref a_m_read, .int m_readMany, .int m_yards, .ref a_m_tides, .ref a_m_seeps, .int m_seepMany, .ref a_m_kinds, .ref a_m_paces, .ref a_m_ears, .int m_many, .int m_at, .int m_place, .int m_end, .int m_readYards, .int m_readSeeps, .int m_readChildren, .ref a_m_hearers, .ref a_m_chosen, .int m_chosenMany, .ref a_m_dues, .ref a_m_sights, .int m_seenMany])), (a_m_row, .inl (cI, 95, .inl g21)), (a_m_read, .inl (cI, 60, .inl m_read)), (a_m_tides, .inl (cI, 12, .inl m_tides)), (a_m_seeps, .inl (cI, 18, .inl g25)), (a_m_kinds, .inl (cI, 5, .inl m_kinds)), (a_m_paces, .inl (cI, 5, .inl m_paces)), (a_m_ears, .inl (cI, 5, .inl m_ears))]) C hw 4 1 rfl rfl hi26 eg25 rfl (dq dt_X9_tell 62 rfl) (fun H locs hw => ?_)
    refine lv_aload_n hx hb (dq dt_X9_tell 63 rfl) rfl (lv_at hl 1 rfl) ?_
    refine kGet (ci := 9) C in_X9 hw 0 rfl rfl 8 (by decide) (C.2.2.2.2.2.2.1 _ q4_103) rfl rfl (dq dt_X9_tell 64 rfl) ?_
    refine lv_iconst (v := (3 : Int32)) hx hb (dq dt_X9_tell 65 rfl) (by decide) ?_
    refine lv_aload_n hx hb (dq dt_X9_tell 66 rfl) rfl (lv_at hl 1 rfl) ?_
    refine kGet (ci := 9) C in_X9 hw 0 rfl rfl 9 (by decide) (C.2.2.2.2.2.2.1 _ q4_104) rfl rfl (dq dt_X9_tell 67 rfl) ?_
    refine lv_imul hx hb (dq dt_X9_tell 68 rfl) ?_
    refine lv_iconst (v := (2 : Int32)) hx hb (dq dt_X9_tell 69 rfl) (by decide) ?_
    refine lv_iadd hx hb (dq dt_X9_tell 70 rfl) ?_
    refine lv_aload_n hx hb (dq dt_X9_tell 71 rfl) rfl (lv_at hl 1 rfl) ?_
    refine kGet (ci := 9) C in_X9 hw 0 rfl rfl 4 (by decide) (C.2.2.2.2.2.2.1 _ q4_99) rfl rfl (dq dt_X9_tell 72 rfl) ?_
    refine lv_iload_n hx hb (dq dt_X9_tell 73 rfl) rfl (lv_at hl 2 rfl) ?_
    refine lv_iconst (v := (4 : Int32)) hx hb (dq dt_X9_tell 74 rfl) (by decide) ?_
    refine lv_iadd hx hb (dq dt_X9_tell 75 rfl) ?_
    obtain ⟨v27, ev27, hi28, hF⟩ := rd_ hF
    refine kIald C hw 2 1 rfl rfl hi28 ev27 (dq dt_X9_tell 76 rfl) ?_
    obtain ⟨g29, eg29, hi30, hF⟩ := wr_ hF
    refine kIast (ws' := [(a_m, .inr (9, [.ref a_m_row, .ref a_m_isKept, .ref a_m_text, .int m_length, .ref a_m_read, .int m_readMany, .int m_yards, .ref a_m_tides, .ref a_m_seeps, .int m_seepMany, .ref a_m_kinds, .ref a_m_paces, .ref a_m_ears, .int m_many, .int m_at, .int m_place, .int m_end, .int m_readYards, .int m_readSeeps, .int m_readChildren, .ref a_m_hearers, .ref a_m_chosen, .int m_chosenMany, .ref a_m_dues, .ref a_m_sights, .int m_seenMany])), (a_m_row, .inl (cI, 95, .inl g21)), (a_m_read, .inl (cI, 60, .inl m_read)), (a_m_tides, .inl (cI, 12, .inl m_tides)), (a_m_seeps, .inl (cI, 18, .inl g29)), (a_m_kinds, .inl (cI, 5, .inl m_kinds)), (a_m_paces, .inl (cI, 5, .inl m_paces)), (a_m_ears, .inl (cI, 5, .inl m_ears))]) C hw 4 1 rfl rfl hi30 eg29 rfl (dq dt_X9_tell 77 rfl) (fun H locs hw => ?_)
    refine lv_aload_n hx hb (dq dt_X9_tell 78 rfl) rfl (lv_at hl 1 rfl) ?_
    refine lv_dup hx hb (dq dt_X9_tell 79 rfl) rfl ?_
    refine kGet (ci := 9) C in_X9 hw 0 rfl rfl 9 (by decide) (C.2.2.2.2.2.2.1 _ q4_104) rfl rfl (dq dt_X9_tell 80 rfl) ?_
    refine lv_iconst (v := (1 : Int32)) hx hb (dq dt_X9_tell 81 rfl) (by decide) ?_
    refine lv_iadd hx hb (dq dt_X9_tell 82 rfl) ?_
    obtain ⟨v31, ev31, hF⟩ := bd_ hF
    refine kNmI ev31 ?_
    refine kPut (ci := 9) (ws' := [(a_m, .inr (9, [.ref a_m_row, .ref a_m_isKept, .ref a_m_text, .int m_length, .ref a_m_read, .int m_readMany, .int m_yards, .ref a_m_tides, .ref a_m_seeps, .int v31, .ref a_m_kinds, .ref a_m_paces, .ref a_m_ears, .int m_many, .int m_at, .int m_place, .int m_end, .int m_readYards, .int m_readSeeps, .int m_readChildren, .ref a_m_hearers, .ref a_m_chosen, .int m_chosenMany, .ref a_m_dues, .ref a_m_sights, .int m_seenMany])), (a_m_row, .inl (cI, 95, .inl g21)), (a_m_read, .inl (cI, 60, .inl m_read)), (a_m_tides, .inl (cI, 12, .inl m_tides)), (a_m_seeps, .inl (cI, 18, .inl g29)), (a_m_kinds, .inl (cI, 5, .inl m_kinds)), (a_m_paces, .inl (cI, 5, .inl m_paces)), (a_m_ears, .inl (cI, 5, .inl m_ears))]) C in_X9 tyX9 tyX9_ok nmX9 hw 0 rfl rfl 9 (by decide) (C.2.2.2.2.2.2.1 _ q4_104) rfl rfl rfl rfl (Nat.le_of_ble_eq_true rfl) rfl (dq dt_X9_tell 83 rfl) (fun H locs hw => ?_)
    cases hF
    exact kRetV hQ C hw (dq dt_X9_tell 84 rfl)
  replace hF := if_f c16 hF
  by_cases c32 : v3 = (3 : Int32)
  · replace hF := if_t c32 hF
    refine lv_tableIn (lo := 0) (hi := 8) (tgt := 182) hx hb (dq dt_X9_tell 11 rfl) (by rw [c32]; decide) (by rw [c32]; decide) (by rw [c32]; rfl) (by decide) ?_
    refine lv_aload_n hx hb (dq dt_X9_tell 93 rfl) rfl (lv_at hl 1 rfl) ?_
    refine kGet (ci := 9) C in_X9 hw 0 rfl rfl 10 (by decide) (C.2.2.2.2.2.2.1 _ q4_105) rfl rfl (dq dt_X9_tell 94 rfl) ?_
    refine lv_aload_n hx hb (dq dt_X9_tell 95 rfl) rfl (lv_at hl 1 rfl) ?_
    refine kGet (ci := 9) C in_X9 hw 0 rfl rfl 13 (by decide) (C.2.2.2.2.2.2.1 _ q4_108) rfl rfl (dq dt_X9_tell 96 rfl) ?_
    refine lv_aload_n hx hb (dq dt_X9_tell 97 rfl) rfl (lv_at hl 1 rfl) ?_
    refine kGet (ci := 9) C in_X9 hw 0 rfl rfl 4 (by decide) (C.2.2.2.2.2.2.1 _ q4_99) rfl rfl (dq dt_X9_tell 98 rfl) ?_
    refine lv_iload_n hx hb (dq dt_X9_tell 99 rfl) rfl (lv_at hl 2 rfl) ?_
    obtain ⟨v33, ev33, hi34, hF⟩ := rd_ hF
    refine kIald C hw 2 1 rfl rfl hi34 ev33 (dq dt_X9_tell 100 rfl) ?_
    refine lv_iconst (v := (3 : Int32)) hx hb (dq dt_X9_tell 101 rfl) (by decide) ?_
    refine lv_isub hx hb (dq dt_X9_tell 102 rfl) ?_
    obtain ⟨v35, ev35, hF⟩ := bd_ hF
    refine kNmI ev35 ?_
    obtain ⟨g36, eg36, hi37, hF⟩ := wr_ hF
    refine kIast (ws' := [(a_m, .inr (9, [.ref a_m_row, .ref a_m_isKept, .ref a_m_text, .int m_length, .ref a_m_read, .int m_readMany, .int m_yards, .ref a_m_tides, .ref a_m_seeps, .int m_seepMany, .ref a_m_kinds, .ref a_m_paces, .ref a_m_ears, .int m_many, .int m_at, .int m_place, .int m_end, .int m_readYards, .int m_readSeeps, .int m_readChildren, .ref a_m_hearers, .ref a_m_chosen, .int m_chosenMany, .ref a_m_dues, .ref a_m_sights, .int m_seenMany])), (a_m_row, .inl (cI, 95, .inl m_row)), (a_m_read, .inl (cI, 60, .inl m_read)), (a_m_tides, .inl (cI, 12, .inl m_tides)), (a_m_seeps, .inl (cI, 18, .inl m_seeps)), (a_m_kinds, .inl (cI, 5, .inl g36)), (a_m_paces, .inl (cI, 5, .inl m_paces)), (a_m_ears, .inl (cI, 5, .inl m_ears))]) C hw 5 1 rfl rfl hi37 eg36 rfl (dq dt_X9_tell 103 rfl) (fun H locs hw => ?_)
    refine lv_aload_n hx hb (dq dt_X9_tell 104 rfl) rfl (lv_at hl 1 rfl) ?_
    refine kGet (ci := 9) C in_X9 hw 0 rfl rfl 0 (by decide) (C.2.2.2.2.2.2.1 _ q4_95) rfl rfl (dq dt_X9_tell 105 rfl) ?_
    refine lv_bipush (v := (83 : Int32)) hx hb (dq dt_X9_tell 106 rfl) (by decide) ?_
    refine lv_aload_n hx hb (dq dt_X9_tell 107 rfl) rfl (lv_at hl 1 rfl) ?_
    refine kGet (ci := 9) C in_X9 hw 0 rfl rfl 13 (by decide) (C.2.2.2.2.2.2.1 _ q4_108) rfl rfl (dq dt_X9_tell 108 rfl) ?_
    refine lv_iadd hx hb (dq dt_X9_tell 109 rfl) ?_
    refine lv_iload_n hx hb (dq dt_X9_tell 110 rfl) rfl (lv_at hl 0 rfl) ?_
    obtain ⟨g38, eg38, hi39, hF⟩ := wr_ hF
    refine kIast (ws' := [(a_m, .inr (9, [.ref a_m_row, .ref a_m_isKept, .ref a_m_text, .int m_length, .ref a_m_read, .int m_readMany, .int m_yards, .ref a_m_tides, .ref a_m_seeps, .int m_seepMany, .ref a_m_kinds, .ref a_m_paces, .ref a_m_ears, .int m_many, .int m_at, .int m_place, .int m_end, .int m_readYards, .int m_readSeeps, .int m_readChildren, .ref a_m_hearers, .ref a_m_chosen, .int m_chosenMany, .ref a_m_dues, .ref a_m_sights, .int m_seenMany])), (a_m_row, .inl (cI, 95, .inl g38)), (a_m_read, .inl (cI, 60, .inl m_read)), (a_m_tides, .inl (cI, 12, .inl m_tides)), (a_m_seeps, .inl (cI, 18, .inl m_seeps)), (a_m_kinds, .inl (cI, 5, .inl g36)), (a_m_paces, .inl (cI, 5, .inl m_paces)), (a_m_ears, .inl (cI, 5, .inl m_ears))]) C hw 1 1 rfl rfl hi39 eg38 rfl (dq dt_X9_tell 111 rfl) (fun H locs hw => ?_)
    refine lv_aload_n hx hb (dq dt_X9_tell 112 rfl) rfl (lv_at hl 1 rfl) ?_
    refine kGet (ci := 9) C in_X9 hw 0 rfl rfl 11 (by decide) (C.2.2.2.2.2.2.1 _ q4_106) rfl rfl (dq dt_X9_tell 113 rfl) ?_
    refine lv_aload_n hx hb (dq dt_X9_tell 114 rfl) rfl (lv_at hl 1 rfl) ?_
    refine kGet (ci := 9) C in_X9 hw 0 rfl rfl 13 (by decide) (C.2.2.2.2.2.2.1 _ q4_108) rfl rfl (dq dt_X9_tell 115 rfl) ?_
    refine lv_aload_n hx hb (dq dt_X9_tell 116 rfl) rfl (lv_at hl 1 rfl) ?_
    refine kGet (ci := 9) C in_X9 hw 0 rfl rfl 4 (by decide) (C.2.2.2.2.2.2.1 _ q4_99) rfl rfl (dq dt_X9_tell 117 rfl) ?_
    refine lv_iload_n hx hb (dq dt_X9_tell 118 rfl) rfl (lv_at hl 2 rfl) ?_
    refine lv_iconst (v := (2 : Int32)) hx hb (dq dt_X9_tell 119 rfl) (by decide) ?_
    refine lv_iadd hx hb (dq dt_X9_tell 120 rfl) ?_
    obtain ⟨v40, ev40, hi41, hF⟩ := rd_ hF
    refine kIald C hw 2 1 rfl rfl hi41 ev40 (dq dt_X9_tell 121 rfl) ?_
    obtain ⟨g42, eg42, hi43, hF⟩ := wr_ hF
    refine kIast (ws' := [(a_m, .inr (9, [.ref a_m_row, .ref a_m_isKept, .ref a_m_text, .int m_length, .ref a_m_read, .int m_readMany, .int m_yards, .ref a_m_tides, .ref a_m_seeps, .int m_seepMany, .ref a_m_kinds, .ref a_m_paces, .ref a_m_ears, .int m_many, .int m_at, .int m_place, .int m_end, .int m_readYards, .int m_readSeeps, .int m_readChildren, .ref a_m_hearers, .ref a_m_chosen, .int m_chosenMany, .ref a_m_dues, .ref a_m_sights, .int m_seenMany])), (a_m_row, .inl (cI, 95, .inl g38)), (a_m_read, .inl (cI, 60, .inl m_read)), (a_m_tides, .inl (cI, 12, .inl m_tides)), (a_m_seeps, .inl (cI, 18, .inl m_seeps)), (a_m_kinds, .inl (cI, 5, .inl g36)), (a_m_paces, .inl (cI, 5, .inl g42)), (a_m_ears, .inl (cI, 5, .inl m_ears))]) C hw 6 1 rfl rfl hi43 eg42 rfl (dq dt_X9_tell 122 rfl) (fun H locs hw => ?_)
    refine lv_aload_n hx hb (dq dt_X9_tell 123 rfl) rfl (lv_at hl 1 rfl) ?_
    refine kGet (ci := 9) C in_X9 hw 0 rfl rfl 12 (by decide) (C.2.2.2.2.2.2.1 _ q4_107) rfl rfl (dq dt_X9_tell 124 rfl) ?_
    refine lv_aload_n hx hb (dq dt_X9_tell 125 rfl) rfl (lv_at hl 1 rfl) ?_
    refine kGet (ci := 9) C in_X9 hw 0 rfl rfl 13 (by decide) (C.2.2.2.2.2.2.1 _ q4_108) rfl rfl (dq dt_X9_tell 126 rfl) ?_
    refine lv_aload_n hx hb (dq dt_X9_tell 127 rfl) rfl (lv_at hl 1 rfl) ?_
    refine kGet (ci := 9) C in_X9 hw 0 rfl rfl 4 (by decide) (C.2.2.2.2.2.2.1 _ q4_99) rfl rfl (dq dt_X9_tell 128 rfl) ?_
    refine lv_iload_n hx hb (dq dt_X9_tell 129 rfl) rfl (lv_at hl 2 rfl) ?_
    refine lv_iconst (v := (3 : Int32)) hx hb (dq dt_X9_tell 130 rfl) (by decide) ?_
    refine lv_iadd hx hb (dq dt_X9_tell 131 rfl) ?_
    obtain ⟨v44, ev44, hi45, hF⟩ := rd_ hF
    refine kIald C hw 2 1 rfl rfl hi45 ev44 (dq dt_X9_tell 132 rfl) ?_
    obtain ⟨g46, eg46, hi47, hF⟩ := wr_ hF
    refine kIast (ws' := [(a_m, .inr (9, [.ref a_m_row, .ref a_m_isKept, .ref a_m_text, .int m_length, .ref a_m_read, .int m_readMany, .int m_yards, .ref a_m_tides, .ref a_m_seeps, .int m_seepMany, .ref a_m_kinds, .ref a_m_paces, .ref a_m_ears, .int m_many, .int m_at, .int m_place, .int m_end, .int m_readYards, .int m_readSeeps, .int m_readChildren, .ref a_m_hearers, .ref a_m_chosen, .int m_chosenMany, .ref a_m_dues, .ref a_m_sights, .int m_seenMany])), (a_m_row, .inl (cI, 95, .inl g38)), (a_m_read, .inl (cI, 60, .inl m_read)), (a_m_tides, .inl (cI, 12, .inl m_tides)), (a_m_seeps, .inl (cI, 18, .inl m_seeps)), (a_m_kinds, .inl (cI, 5, .inl g36)), (a_m_paces, .inl (cI, 5, .inl g42)), (a_m_ears, .inl (cI, 5, .inl g46))]) C hw 7 1 rfl rfl hi47 eg46 rfl (dq dt_X9_tell 133 rfl) (fun H locs hw => ?_)
    refine lv_aload_n hx hb (dq dt_X9_tell 134 rfl) rfl (lv_at hl 1 rfl) ?_
    refine lv_dup hx hb (dq dt_X9_tell 135 rfl) rfl ?_
    refine kGet (ci := 9) C in_X9 hw 0 rfl rfl 13 (by decide) (C.2.2.2.2.2.2.1 _ q4_108) rfl rfl (dq dt_X9_tell 136 rfl) ?_
    refine lv_iconst (v := (1 : Int32)) hx hb (dq dt_X9_tell 137 rfl) (by decide) ?_
    refine lv_iadd hx hb (dq dt_X9_tell 138 rfl) ?_
    obtain ⟨v48, ev48, hF⟩ := bd_ hF
    refine kNmI ev48 ?_
    refine kPut (ci := 9) (ws' := [(a_m, .inr (9, [.ref a_m_row, .ref a_m_isKept, .ref a_m_text, .int m_length, .ref a_m_read, .int m_readMany, .int m_yards, .ref a_m_tides, .ref a_m_seeps, .int m_seepMany, .ref a_m_kinds, .ref a_m_paces, .ref a_m_ears, .int v48, .int m_at, .int m_place, .int m_end, .int m_readYards, .int m_readSeeps, .int m_readChildren, .ref a_m_hearers, .ref a_m_chosen, .int m_chosenMany, .ref a_m_dues, .ref a_m_sights, .int m_seenMany])), (a_m_row, .inl (cI, 95, .inl g38)), (a_m_read, .inl (cI, 60, .inl m_read)), (a_m_tides, .inl (cI, 12, .inl m_tides)), (a_m_seeps, .inl (cI, 18, .inl m_seeps)), (a_m_kinds, .inl (cI, 5, .inl g36)), (a_m_paces, .inl (cI, 5, .inl g42)), (a_m_ears, .inl (cI, 5, .inl g46))]) C in_X9 tyX9 tyX9_ok nmX9 hw 0 rfl rfl 13 (by decide) (C.2.2.2.2.2.2.1 _ q4_108) rfl rfl rfl rfl (Nat.le_of_ble_eq_true rfl) rfl (dq dt_X9_tell 139 rfl) (fun H locs hw => ?_)
    cases hF
    exact kRetV hQ C hw (dq dt_X9_tell 140 rfl)
  replace hF := if_f c32 hF
  by_cases c49 : v3 = (4 : Int32)
  · replace hF := if_t c49 hF
    refine lv_tableIn (lo := 0) (hi := 8) (tgt := 182) hx hb (dq dt_X9_tell 11 rfl) (by rw [c49]; decide) (by rw [c49]; decide) (by rw [c49]; rfl) (by decide) ?_
    refine lv_aload_n hx hb (dq dt_X9_tell 93 rfl) rfl (lv_at hl 1 rfl) ?_
    refine kGet (ci := 9) C in_X9 hw 0 rfl rfl 10 (by decide) (C.2.2.2.2.2.2.1 _ q4_105) rfl rfl (dq dt_X9_tell 94 rfl) ?_
    refine lv_aload_n hx hb (dq dt_X9_tell 95 rfl) rfl (lv_at hl 1 rfl) ?_
    refine kGet (ci := 9) C in_X9 hw 0 rfl rfl 13 (by decide) (C.2.2.2.2.2.2.1 _ q4_108) rfl rfl (dq dt_X9_tell 96 rfl) ?_
    refine lv_aload_n hx hb (dq dt_X9_tell 97 rfl) rfl (lv_at hl 1 rfl) ?_
    refine kGet (ci := 9) C in_X9 hw 0 rfl rfl 4 (by decide) (C.2.2.2.2.2.2.1 _ q4_99) rfl rfl (dq dt_X9_tell 98 rfl) ?_
    refine lv_iload_n hx hb (dq dt_X9_tell 99 rfl) rfl (lv_at hl 2 rfl) ?_
    obtain ⟨v50, ev50, hi51, hF⟩ := rd_ hF
    refine kIald C hw 2 1 rfl rfl hi51 ev50 (dq dt_X9_tell 100 rfl) ?_
    refine lv_iconst (v := (3 : Int32)) hx hb (dq dt_X9_tell 101 rfl) (by decide) ?_
    refine lv_isub hx hb (dq dt_X9_tell 102 rfl) ?_
    obtain ⟨v52, ev52, hF⟩ := bd_ hF
    refine kNmI ev52 ?_
    obtain ⟨g53, eg53, hi54, hF⟩ := wr_ hF
    refine kIast (ws' := [(a_m, .inr (9, [.ref a_m_row, .ref a_m_isKept, .ref a_m_text, .int m_length, .ref a_m_read, .int m_readMany, .int m_yards, .ref a_m_tides, .ref a_m_seeps, .int m_seepMany, .ref a_m_kinds, .ref a_m_paces, .ref a_m_ears, .int m_many, .int m_at, .int m_place, .int m_end, .int m_readYards, .int m_readSeeps, .int m_readChildren, .ref a_m_hearers, .ref a_m_chosen, .int m_chosenMany, .ref a_m_dues, .ref a_m_sights, .int m_seenMany])), (a_m_row, .inl (cI, 95, .inl m_row)), (a_m_read, .inl (cI, 60, .inl m_read)), (a_m_tides, .inl (cI, 12, .inl m_tides)), (a_m_seeps, .inl (cI, 18, .inl m_seeps)), (a_m_kinds, .inl (cI, 5, .inl g53)), (a_m_paces, .inl (cI, 5, .inl m_paces)), (a_m_ears, .inl (cI, 5, .inl m_ears))]) C hw 5 1 rfl rfl hi54 eg53 rfl (dq dt_X9_tell 103 rfl) (fun H locs hw => ?_)
    refine lv_aload_n hx hb (dq dt_X9_tell 104 rfl) rfl (lv_at hl 1 rfl) ?_
    refine kGet (ci := 9) C in_X9 hw 0 rfl rfl 0 (by decide) (C.2.2.2.2.2.2.1 _ q4_95) rfl rfl (dq dt_X9_tell 105 rfl) ?_
    refine lv_bipush (v := (83 : Int32)) hx hb (dq dt_X9_tell 106 rfl) (by decide) ?_
    refine lv_aload_n hx hb (dq dt_X9_tell 107 rfl) rfl (lv_at hl 1 rfl) ?_
    refine kGet (ci := 9) C in_X9 hw 0 rfl rfl 13 (by decide) (C.2.2.2.2.2.2.1 _ q4_108) rfl rfl (dq dt_X9_tell 108 rfl) ?_
    refine lv_iadd hx hb (dq dt_X9_tell 109 rfl) ?_
    refine lv_iload_n hx hb (dq dt_X9_tell 110 rfl) rfl (lv_at hl 0 rfl) ?_
    obtain ⟨g55, eg55, hi56, hF⟩ := wr_ hF
    refine kIast (ws' := [(a_m, .inr (9, [.ref a_m_row, .ref a_m_isKept, .ref a_m_text, .int m_length, .ref a_m_read, .int m_readMany, .int m_yards, .ref a_m_tides, .ref a_m_seeps, .int m_seepMany, .ref a_m_kinds, .ref a_m_paces, .ref a_m_ears, .int m_many, .int m_at, .int m_place, .int m_end, .int m_readYards, .int m_readSeeps, .int m_readChildren, .ref a_m_hearers, .ref a_m_chosen, .int m_chosenMany, .ref a_m_dues, .ref a_m_sights, .int m_seenMany])), (a_m_row, .inl (cI, 95, .inl g55)), (a_m_read, .inl (cI, 60, .inl m_read)), (a_m_tides, .inl (cI, 12, .inl m_tides)), (a_m_seeps, .inl (cI, 18, .inl m_seeps)), (a_m_kinds, .inl (cI, 5, .inl g53)), (a_m_paces, .inl (cI, 5, .inl m_paces)), (a_m_ears, .inl (cI, 5, .inl m_ears))]) C hw 1 1 rfl rfl hi56 eg55 rfl (dq dt_X9_tell 111 rfl) (fun H locs hw => ?_)
    refine lv_aload_n hx hb (dq dt_X9_tell 112 rfl) rfl (lv_at hl 1 rfl) ?_
    refine kGet (ci := 9) C in_X9 hw 0 rfl rfl 11 (by decide) (C.2.2.2.2.2.2.1 _ q4_106) rfl rfl (dq dt_X9_tell 113 rfl) ?_
    refine lv_aload_n hx hb (dq dt_X9_tell 114 rfl) rfl (lv_at hl 1 rfl) ?_
    refine kGet (ci := 9) C in_X9 hw 0 rfl rfl 13 (by decide) (C.2.2.2.2.2.2.1 _ q4_108) rfl rfl (dq dt_X9_tell 115 rfl) ?_
    refine lv_aload_n hx hb (dq dt_X9_tell 116 rfl) rfl (lv_at hl 1 rfl) ?_
    refine kGet (ci := 9) C in_X9 hw 0 rfl rfl 4 (by decide) (C.2.2.2.2.2.2.1 _ q4_99) rfl rfl (dq dt_X9_tell 117 rfl) ?_
    refine lv_iload_n hx hb (dq dt_X9_tell 118 rfl) rfl (lv_at hl 2 rfl) ?_
    refine lv_iconst (v := (2 : Int32)) hx hb (dq dt_X9_tell 119 rfl) (by decide) ?_
    refine lv_iadd hx hb (dq dt_X9_tell 120 rfl) ?_
    obtain ⟨v57, ev57, hi58, hF⟩ := rd_ hF
    refine kIald C hw 2 1 rfl rfl hi58 ev57 (dq dt_X9_tell 121 rfl) ?_
    obtain ⟨g59, eg59, hi60, hF⟩ := wr_ hF
    refine kIast (ws' := [(a_m, .inr (9, [.ref a_m_row, .ref a_m_isKept, .ref a_m_text, .int m_length, .ref a_m_read, .int m_readMany, .int m_yards, .ref a_m_tides, .ref a_m_seeps, .int m_seepMany, .ref a_m_kinds, .ref a_m_paces, .ref a_m_ears, .int m_many, .int m_at, .int m_place, .int m_end, .int m_readYards, .int m_readSeeps, .int m_readChildren, .ref a_m_hearers, .ref a_m_chosen, .int m_chosenMany, .ref a_m_dues, .ref a_m_sights, .int m_seenMany])), (a_m_row, .inl (cI, 95, .inl g55)), (a_m_read, .inl (cI, 60, .inl m_read)), (a_m_tides, .inl (cI, 12, .inl m_tides)), (a_m_seeps, .inl (cI, 18, .inl m_seeps)), (a_m_kinds, .inl (cI, 5, .inl g53)), (a_m_paces, .inl (cI, 5, .inl g59)), (a_m_ears, .inl (cI, 5, .inl m_ears))]) C hw 6 1 rfl rfl hi60 eg59 rfl (dq dt_X9_tell 122 rfl) (fun H locs hw => ?_)
    refine lv_aload_n hx hb (dq dt_X9_tell 123 rfl) rfl (lv_at hl 1 rfl) ?_
    refine kGet (ci := 9) C in_X9 hw 0 rfl rfl 12 (by decide) (C.2.2.2.2.2.2.1 _ q4_107) rfl rfl (dq dt_X9_tell 124 rfl) ?_
    refine lv_aload_n hx hb (dq dt_X9_tell 125 rfl) rfl (lv_at hl 1 rfl) ?_
    refine kGet (ci := 9) C in_X9 hw 0 rfl rfl 13 (by decide) (C.2.2.2.2.2.2.1 _ q4_108) rfl rfl (dq dt_X9_tell 126 rfl) ?_
    refine lv_aload_n hx hb (dq dt_X9_tell 127 rfl) rfl (lv_at hl 1 rfl) ?_
    refine kGet (ci := 9) C in_X9 hw 0 rfl rfl 4 (by decide) (C.2.2.2.2.2.2.1 _ q4_99) rfl rfl (dq dt_X9_tell 128 rfl) ?_
    refine lv_iload_n hx hb (dq dt_X9_tell 129 rfl) rfl (lv_at hl 2 rfl) ?_
    refine lv_iconst (v := (3 : Int32)) hx hb (dq dt_X9_tell 130 rfl) (by decide) ?_
    refine lv_iadd hx hb (dq dt_X9_tell 131 rfl) ?_
    obtain ⟨v61, ev61, hi62, hF⟩ := rd_ hF
    refine kIald C hw 2 1 rfl rfl hi62 ev61 (dq dt_X9_tell 132 rfl) ?_
    obtain ⟨g63, eg63, hi64, hF⟩ := wr_ hF
    refine kIast (ws' := [(a_m, .inr (9, [.ref a_m_row, .ref a_m_isKept, .ref a_m_text, .int m_length, .ref a_m_read, .int m_readMany, .int m_yards, .ref a_m_tides, .ref a_m_seeps, .int m_seepMany, .ref a_m_kinds, .ref a_m_paces, .ref a_m_ears, .int m_many, .int m_at, .int m_place, .int m_end, .int m_readYards, .int m_readSeeps, .int m_readChildren, .ref a_m_hearers, .ref a_m_chosen, .int m_chosenMany, .ref a_m_dues, .ref a_m_sights, .int m_seenMany])), (a_m_row, .inl (cI, 95, .inl g55)), (a_m_read, .inl (cI, 60, .inl m_read)), (a_m_tides, .inl (cI, 12, .inl m_tides)), (a_m_seeps, .inl (cI, 18, .inl m_seeps)), (a_m_kinds, .inl (cI, 5, .inl g53)), (a_m_paces, .inl (cI, 5, .inl g59)), (a_m_ears, .inl (cI, 5, .inl g63))]) C hw 7 1 rfl rfl hi64 eg63 rfl (dq dt_X9_tell 133 rfl) (fun H locs hw => ?_)
    refine lv_aload_n hx hb (dq dt_X9_tell 134 rfl) rfl (lv_at hl 1 rfl) ?_
    refine lv_dup hx hb (dq dt_X9_tell 135 rfl) rfl ?_
    refine kGet (ci := 9) C in_X9 hw 0 rfl rfl 13 (by decide) (C.2.2.2.2.2.2.1 _ q4_108) rfl rfl (dq dt_X9_tell 136 rfl) ?_
    refine lv_iconst (v := (1 : Int32)) hx hb (dq dt_X9_tell 137 rfl) (by decide) ?_
    refine lv_iadd hx hb (dq dt_X9_tell 138 rfl) ?_
    obtain ⟨v65, ev65, hF⟩ := bd_ hF
    refine kNmI ev65 ?_
    refine kPut (ci := 9) (ws' := [(a_m, .inr (9, [.ref a_m_row, .ref a_m_isKept, .ref a_m_text, .int m_length, .ref a_m_read, .int m_readMany, .int m_yards, .ref a_m_tides, .ref a_m_seeps, .int m_seepMany, .ref a_m_kinds, .ref a_m_paces, .ref a_m_ears, .int v65, .int m_at, .int m_place, .int m_end, .int m_readYards, .int m_readSeeps, .int m_readChildren, .ref a_m_hearers, .ref a_m_chosen, .int m_chosenMany, .ref a_m_dues, .ref a_m_sights, .int m_seenMany])), (a_m_row, .inl (cI, 95, .inl g55)), (a_m_read, .inl (cI, 60, .inl m_read)), (a_m_tides, .inl (cI, 12, .inl m_tides)), (a_m_seeps, .inl (cI, 18, .inl m_seeps)), (a_m_kinds, .inl (cI, 5, .inl g53)), (a_m_paces, .inl (cI, 5, .inl g59)), (a_m_ears, .inl (cI, 5, .inl g63))]) C in_X9 tyX9 tyX9_ok nmX9 hw 0 rfl rfl 13 (by decide) (C.2.2.2.2.2.2.1 _ q4_108) rfl rfl rfl rfl (Nat.le_of_ble_eq_true rfl) rfl (dq dt_X9_tell 139 rfl) (fun H locs hw => ?_)
    cases hF
    exact kRetV hQ C hw (dq dt_X9_tell 140 rfl)
  replace hF := if_f c49 hF
  by_cases c66 : v3 = (5 : Int32)
  · replace hF := if_t c66 hF
    refine lv_tableIn (lo := 0) (hi := 8) (tgt := 182) hx hb (dq dt_X9_tell 11 rfl) (by rw [c66]; decide) (by rw [c66]; decide) (by rw [c66]; rfl) (by decide) ?_
    refine lv_aload_n hx hb (dq dt_X9_tell 93 rfl) rfl (lv_at hl 1 rfl) ?_
    refine kGet (ci := 9) C in_X9 hw 0 rfl rfl 10 (by decide) (C.2.2.2.2.2.2.1 _ q4_105) rfl rfl (dq dt_X9_tell 94 rfl) ?_
    refine lv_aload_n hx hb (dq dt_X9_tell 95 rfl) rfl (lv_at hl 1 rfl) ?_
    refine kGet (ci := 9) C in_X9 hw 0 rfl rfl 13 (by decide) (C.2.2.2.2.2.2.1 _ q4_108) rfl rfl (dq dt_X9_tell 96 rfl) ?_
    refine lv_aload_n hx hb (dq dt_X9_tell 97 rfl) rfl (lv_at hl 1 rfl) ?_
    refine kGet (ci := 9) C in_X9 hw 0 rfl rfl 4 (by decide) (C.2.2.2.2.2.2.1 _ q4_99) rfl rfl (dq dt_X9_tell 98 rfl) ?_
    refine lv_iload_n hx hb (dq dt_X9_tell 99 rfl) rfl (lv_at hl 2 rfl) ?_
    obtain ⟨v67, ev67, hi68, hF⟩ := rd_ hF
    refine kIald C hw 2 1 rfl rfl hi68 ev67 (dq dt_X9_tell 100 rfl) ?_
    refine lv_iconst (v := (3 : Int32)) hx hb (dq dt_X9_tell 101 rfl) (by decide) ?_
    refine lv_isub hx hb (dq dt_X9_tell 102 rfl) ?_
    obtain ⟨v69, ev69, hF⟩ := bd_ hF
    refine kNmI ev69 ?_
    obtain ⟨g70, eg70, hi71, hF⟩ := wr_ hF
    refine kIast (ws' := [(a_m, .inr (9, [.ref a_m_row, .ref a_m_isKept, .ref a_m_text, .int m_length, .ref a_m_read, .int m_readMany, .int m_yards, .ref a_m_tides, .ref a_m_seeps, .int m_seepMany, .ref a_m_kinds, .ref a_m_paces, .ref a_m_ears, .int m_many, .int m_at, .int m_place, .int m_end, .int m_readYards, .int m_readSeeps, .int m_readChildren, .ref a_m_hearers, .ref a_m_chosen, .int m_chosenMany, .ref a_m_dues, .ref a_m_sights, .int m_seenMany])), (a_m_row, .inl (cI, 95, .inl m_row)), (a_m_read, .inl (cI, 60, .inl m_read)), (a_m_tides, .inl (cI, 12, .inl m_tides)), (a_m_seeps, .inl (cI, 18, .inl m_seeps)), (a_m_kinds, .inl (cI, 5, .inl g70)), (a_m_paces, .inl (cI, 5, .inl m_paces)), (a_m_ears, .inl (cI, 5, .inl m_ears))]) C hw 5 1 rfl rfl hi71 eg70 rfl (dq dt_X9_tell 103 rfl) (fun H locs hw => ?_)
    refine lv_aload_n hx hb (dq dt_X9_tell 104 rfl) rfl (lv_at hl 1 rfl) ?_
    refine kGet (ci := 9) C in_X9 hw 0 rfl rfl 0 (by decide) (C.2.2.2.2.2.2.1 _ q4_95) rfl rfl (dq dt_X9_tell 105 rfl) ?_
    refine lv_bipush (v := (83 : Int32)) hx hb (dq dt_X9_tell 106 rfl) (by decide) ?_
    refine lv_aload_n hx hb (dq dt_X9_tell 107 rfl) rfl (lv_at hl 1 rfl) ?_
    refine kGet (ci := 9) C in_X9 hw 0 rfl rfl 13 (by decide) (C.2.2.2.2.2.2.1 _ q4_108) rfl rfl (dq dt_X9_tell 108 rfl) ?_
    refine lv_iadd hx hb (dq dt_X9_tell 109 rfl) ?_
    refine lv_iload_n hx hb (dq dt_X9_tell 110 rfl) rfl (lv_at hl 0 rfl) ?_
    obtain ⟨g72, eg72, hi73, hF⟩ := wr_ hF
    refine kIast (ws' := [(a_m, .inr (9, [.ref a_m_row, .ref a_m_isKept, .ref a_m_text, .int m_length, .ref a_m_read, .int m_readMany, .int m_yards, .ref a_m_tides, .ref a_m_seeps, .int m_seepMany, .ref a_m_kinds, .ref a_m_paces, .ref a_m_ears, .int m_many, .int m_at, .int m_place, .int m_end, .int m_readYards, .int m_readSeeps, .int m_readChildren, .ref a_m_hearers, .ref a_m_chosen, .int m_chosenMany, .ref a_m_dues, .ref a_m_sights, .int m_seenMany])), (a_m_row, .inl (cI, 95, .inl g72)), (a_m_read, .inl (cI, 60, .inl m_read)), (a_m_tides, .inl (cI, 12, .inl m_tides)), (a_m_seeps, .inl (cI, 18, .inl m_seeps)), (a_m_kinds, .inl (cI, 5, .inl g70)), (a_m_paces, .inl (cI, 5, .inl m_paces)), (a_m_ears, .inl (cI, 5, .inl m_ears))]) C hw 1 1 rfl rfl hi73 eg72 rfl (dq dt_X9_tell 111 rfl) (fun H locs hw => ?_)
    refine lv_aload_n hx hb (dq dt_X9_tell 112 rfl) rfl (lv_at hl 1 rfl) ?_
    refine kGet (ci := 9) C in_X9 hw 0 rfl rfl 11 (by decide) (C.2.2.2.2.2.2.1 _ q4_106) rfl rfl (dq dt_X9_tell 113 rfl) ?_
    refine lv_aload_n hx hb (dq dt_X9_tell 114 rfl) rfl (lv_at hl 1 rfl) ?_
    refine kGet (ci := 9) C in_X9 hw 0 rfl rfl 13 (by decide) (C.2.2.2.2.2.2.1 _ q4_108) rfl rfl (dq dt_X9_tell 115 rfl) ?_
    refine lv_aload_n hx hb (dq dt_X9_tell 116 rfl) rfl (lv_at hl 1 rfl) ?_
    refine kGet (ci := 9) C in_X9 hw 0 rfl rfl 4 (by decide) (C.2.2.2.2.2.2.1 _ q4_99) rfl rfl (dq dt_X9_tell 117 rfl) ?_
    refine lv_iload_n hx hb (dq dt_X9_tell 118 rfl) rfl (lv_at hl 2 rfl) ?_
    refine lv_iconst (v := (2 : Int32)) hx hb (dq dt_X9_tell 119 rfl) (by decide) ?_
    refine lv_iadd hx hb (dq dt_X9_tell 120 rfl) ?_
    obtain ⟨v74, ev74, hi75, hF⟩ := rd_ hF
    refine kIald C hw 2 1 rfl rfl hi75 ev74 (dq dt_X9_tell 121 rfl) ?_
    obtain ⟨g76, eg76, hi77, hF⟩ := wr_ hF
    refine kIast (ws' := [(a_m, .inr (9, [.ref a_m_row, .ref a_m_isKept, .ref a_m_text, .int m_length, .ref a_m_read, .int m_readMany, .int m_yards, .ref a_m_tides, .ref a_m_seeps, .int m_seepMany, .ref a_m_kinds, .ref a_m_paces, .ref a_m_ears, .int m_many, .int m_at, .int m_place, .int m_end, .int m_readYards, .int m_readSeeps, .int m_readChildren, .ref a_m_hearers, .ref a_m_chosen, .int m_chosenMany, .ref a_m_dues, .ref a_m_sights, .int m_seenMany])), (a_m_row, .inl (cI, 95, .inl g72)), (a_m_read, .inl (cI, 60, .inl m_read)), (a_m_tides, .inl (cI, 12, .inl m_tides)), (a_m_seeps, .inl (cI, 18, .inl m_seeps)), (a_m_kinds, .inl (cI, 5, .inl g70)), (a_m_paces, .inl (cI, 5, .inl g76)), (a_m_ears, .inl (cI, 5, .inl m_ears))]) C hw 6 1 rfl rfl hi77 eg76 rfl (dq dt_X9_tell 122 rfl) (fun H locs hw => ?_)
    refine lv_aload_n hx hb (dq dt_X9_tell 123 rfl) rfl (lv_at hl 1 rfl) ?_
    refine kGet (ci := 9) C in_X9 hw 0 rfl rfl 12 (by decide) (C.2.2.2.2.2.2.1 _ q4_107) rfl rfl (dq dt_X9_tell 124 rfl) ?_
    refine lv_aload_n hx hb (dq dt_X9_tell 125 rfl) rfl (lv_at hl 1 rfl) ?_
    refine kGet (ci := 9) C in_X9 hw 0 rfl rfl 13 (by decide) (C.2.2.2.2.2.2.1 _ q4_108) rfl rfl (dq dt_X9_tell 126 rfl) ?_
    refine lv_aload_n hx hb (dq dt_X9_tell 127 rfl) rfl (lv_at hl 1 rfl) ?_
    refine kGet (ci := 9) C in_X9 hw 0 rfl rfl 4 (by decide) (C.2.2.2.2.2.2.1 _ q4_99) rfl rfl (dq dt_X9_tell 128 rfl) ?_
    refine lv_iload_n hx hb (dq dt_X9_tell 129 rfl) rfl (lv_at hl 2 rfl) ?_
    refine lv_iconst (v := (3 : Int32)) hx hb (dq dt_X9_tell 130 rfl) (by decide) ?_
    refine lv_iadd hx hb (dq dt_X9_tell 131 rfl) ?_
    obtain ⟨v78, ev78, hi79, hF⟩ := rd_ hF
    refine kIald C hw 2 1 rfl rfl hi79 ev78 (dq dt_X9_tell 132 rfl) ?_
    obtain ⟨g80, eg80, hi81, hF⟩ := wr_ hF
    refine kIast (ws' := [(a_m, .inr (9, [.ref a_m_row, .ref a_m_isKept, .ref a_m_text, .int m_length, .ref a_m_read, .int m_readMany, .int m_yards, .ref a_m_tides, .ref a_m_seeps, .int m_seepMany, .ref a_m_kinds, .ref a_m_paces, .ref a_m_ears, .int m_many, .int m_at, .int m_place, .int m_end, .int m_readYards, .int m_readSeeps, .int m_readChildren, .ref a_m_hearers, .ref a_m_chosen, .int m_chosenMany, .ref a_m_dues, .ref a_m_sights, .int m_seenMany])), (a_m_row, .inl (cI, 95, .inl g72)), (a_m_read, .inl (cI, 60, .inl m_read)), (a_m_tides, .inl (cI, 12, .inl m_tides)), (a_m_seeps, .inl (cI, 18, .inl m_seeps)), (a_m_kinds, .inl (cI, 5, .inl g70)), (a_m_paces, .inl (cI, 5, .inl g76)), (a_m_ears, .inl (cI, 5, .inl g80))]) C hw 7 1 rfl rfl hi81 eg80 rfl (dq dt_X9_tell 133 rfl) (fun H locs hw => ?_)
    refine lv_aload_n hx hb (dq dt_X9_tell 134 rfl) rfl (lv_at hl 1 rfl) ?_
    refine lv_dup hx hb (dq dt_X9_tell 135 rfl) rfl ?_
    refine kGet (ci := 9) C in_X9 hw 0 rfl rfl 13 (by decide) (C.2.2.2.2.2.2.1 _ q4_108) rfl rfl (dq dt_X9_tell 136 rfl) ?_
    refine lv_iconst (v := (1 : Int32)) hx hb (dq dt_X9_tell 137 rfl) (by decide) ?_
    refine lv_iadd hx hb (dq dt_X9_tell 138 rfl) ?_
    obtain ⟨v82, ev82, hF⟩ := bd_ hF
    refine kNmI ev82 ?_
    refine kPut (ci := 9) (ws' := [(a_m, .inr (9, [.ref a_m_row, .ref a_m_isKept, .ref a_m_text, .int m_length, .ref a_m_read, .int m_readMany, .int m_yards, .ref a_m_tides, .ref a_m_seeps, .int m_seepMany, .ref a_m_kinds, .ref a_m_paces, .ref a_m_ears, .int v82, .int m_at, .int m_place, .int m_end, .int m_readYards, .int m_readSeeps, .int m_readChildren, .ref a_m_hearers, .ref a_m_chosen, .int m_chosenMany, .ref a_m_dues, .ref a_m_sights, .int m_seenMany])), (a_m_row, .inl (cI, 95, .inl g72)), (a_m_read, .inl (cI, 60, .inl m_read)), (a_m_tides, .inl (cI, 12, .inl m_tides)), (a_m_seeps, .inl (cI, 18, .inl m_seeps)), (a_m_kinds, .inl (cI, 5, .inl g70)), (a_m_paces, .inl (cI, 5, .inl g76)), (a_m_ears, .inl (cI, 5, .inl g80))]) C in_X9 tyX9 tyX9_ok nmX9 hw 0 rfl rfl 13 (by decide) (C.2.2.2.2.2.2.1 _ q4_108) rfl rfl rfl rfl (Nat.le_of_ble_eq_true rfl) rfl (dq dt_X9_tell 139 rfl) (fun H locs hw => ?_)
    cases hF
    exact kRetV hQ C hw (dq dt_X9_tell 140 rfl)
  replace hF := if_f c66 hF
  by_cases c83 : v3 = (6 : Int32)
  · replace hF := if_t c83 hF
    refine lv_tableIn (lo := 0) (hi := 8) (tgt := 182) hx hb (dq dt_X9_tell 11 rfl) (by rw [c83]; decide) (by rw [c83]; decide) (by rw [c83]; rfl) (by decide) ?_
    refine lv_aload_n hx hb (dq dt_X9_tell 93 rfl) rfl (lv_at hl 1 rfl) ?_
    refine kGet (ci := 9) C in_X9 hw 0 rfl rfl 10 (by decide) (C.2.2.2.2.2.2.1 _ q4_105) rfl rfl (dq dt_X9_tell 94 rfl) ?_
    refine lv_aload_n hx hb (dq dt_X9_tell 95 rfl) rfl (lv_at hl 1 rfl) ?_
    refine kGet (ci := 9) C in_X9 hw 0 rfl rfl 13 (by decide) (C.2.2.2.2.2.2.1 _ q4_108) rfl rfl (dq dt_X9_tell 96 rfl) ?_
    refine lv_aload_n hx hb (dq dt_X9_tell 97 rfl) rfl (lv_at hl 1 rfl) ?_
    refine kGet (ci := 9) C in_X9 hw 0 rfl rfl 4 (by decide) (C.2.2.2.2.2.2.1 _ q4_99) rfl rfl (dq dt_X9_tell 98 rfl) ?_
    refine lv_iload_n hx hb (dq dt_X9_tell 99 rfl) rfl (lv_at hl 2 rfl) ?_
    obtain ⟨v84, ev84, hi85, hF⟩ := rd_ hF
    refine kIald C hw 2 1 rfl rfl hi85 ev84 (dq dt_X9_tell 100 rfl) ?_
    refine lv_iconst (v := (3 : Int32)) hx hb (dq dt_X9_tell 101 rfl) (by decide) ?_
    refine lv_isub hx hb (dq dt_X9_tell 102 rfl) ?_
    obtain ⟨v86, ev86, hF⟩ := bd_ hF
    refine kNmI ev86 ?_
    obtain ⟨g87, eg87, hi88, hF⟩ := wr_ hF
    refine kIast (ws' := [(a_m, .inr (9, [.ref a_m_row, .ref a_m_isKept, .ref a_m_text, .int m_length, .ref a_m_read, .int m_readMany, .int m_yards, .ref a_m_tides, .ref a_m_seeps, .int m_seepMany, .ref a_m_kinds, .ref a_m_paces, .ref a_m_ears, .int m_many, .int m_at, .int m_place, .int m_end, .int m_readYards, .int m_readSeeps, .int m_readChildren, .ref a_m_hearers, .ref a_m_chosen, .int m_chosenMany, .ref a_m_dues, .ref a_m_sights, .int m_seenMany])), (a_m_row, .inl (cI, 95, .inl m_row)), (a_m_read, .inl (cI, 60, .inl m_read)), (a_m_tides, .inl (cI, 12, .inl m_tides)), (a_m_seeps, .inl (cI, 18, .inl m_seeps)), (a_m_kinds, .inl (cI, 5, .inl g87)), (a_m_paces, .inl (cI, 5, .inl m_paces)), (a_m_ears, .inl (cI, 5, .inl m_ears))]) C hw 5 1 rfl rfl hi88 eg87 rfl (dq dt_X9_tell 103 rfl) (fun H locs hw => ?_)
    refine lv_aload_n hx hb (dq dt_X9_tell 104 rfl) rfl (lv_at hl 1 rfl) ?_
    refine kGet (ci := 9) C in_X9 hw 0 rfl rfl 0 (by decide) (C.2.2.2.2.2.2.1 _ q4_95) rfl rfl (dq dt_X9_tell 105 rfl) ?_
    refine lv_bipush (v := (83 : Int32)) hx hb (dq dt_X9_tell 106 rfl) (by decide) ?_
    refine lv_aload_n hx hb (dq dt_X9_tell 107 rfl) rfl (lv_at hl 1 rfl) ?_
    refine kGet (ci := 9) C in_X9 hw 0 rfl rfl 13 (by decide) (C.2.2.2.2.2.2.1 _ q4_108) rfl rfl (dq dt_X9_tell 108 rfl) ?_
    refine lv_iadd hx hb (dq dt_X9_tell 109 rfl) ?_
    refine lv_iload_n hx hb (dq dt_X9_tell 110 rfl) rfl (lv_at hl 0 rfl) ?_
    obtain ⟨g89, eg89, hi90, hF⟩ := wr_ hF
    refine kIast (ws' := [(a_m, .inr (9, [.ref a_m_row, .ref a_m_isKept, .ref a_m_text, .int m_length, .ref a_m_read, .int m_readMany, .int m_yards, .ref a_m_tides, .ref a_m_seeps, .int m_seepMany, .ref a_m_kinds, .ref a_m_paces, .ref a_m_ears, .int m_many, .int m_at, .int m_place, .int m_end, .int m_readYards, .int m_readSeeps, .int m_readChildren, .ref a_m_hearers, .ref a_m_chosen, .int m_chosenMany, .ref a_m_dues, .ref a_m_sights, .int m_seenMany])), (a_m_row, .inl (cI, 95, .inl g89)), (a_m_read, .inl (cI, 60, .inl m_read)), (a_m_tides, .inl (cI, 12, .inl m_tides)), (a_m_seeps, .inl (cI, 18, .inl m_seeps)), (a_m_kinds, .inl (cI, 5, .inl g87)), (a_m_paces, .inl (cI, 5, .inl m_paces)), (a_m_ears, .inl (cI, 5, .inl m_ears))]) C hw 1 1 rfl rfl hi90 eg89 rfl (dq dt_X9_tell 111 rfl) (fun H locs hw => ?_)
    refine lv_aload_n hx hb (dq dt_X9_tell 112 rfl) rfl (lv_at hl 1 rfl) ?_
    refine kGet (ci := 9) C in_X9 hw 0 rfl rfl 11 (by decide) (C.2.2.2.2.2.2.1 _ q4_106) rfl rfl (dq dt_X9_tell 113 rfl) ?_
    refine lv_aload_n hx hb (dq dt_X9_tell 114 rfl) rfl (lv_at hl 1 rfl) ?_
    refine kGet (ci := 9) C in_X9 hw 0 rfl rfl 13 (by decide) (C.2.2.2.2.2.2.1 _ q4_108) rfl rfl (dq dt_X9_tell 115 rfl) ?_
    refine lv_aload_n hx hb (dq dt_X9_tell 116 rfl) rfl (lv_at hl 1 rfl) ?_
    refine kGet (ci := 9) C in_X9 hw 0 rfl rfl 4 (by decide) (C.2.2.2.2.2.2.1 _ q4_99) rfl rfl (dq dt_X9_tell 117 rfl) ?_
    refine lv_iload_n hx hb (dq dt_X9_tell 118 rfl) rfl (lv_at hl 2 rfl) ?_
    refine lv_iconst (v := (2 : Int32)) hx hb (dq dt_X9_tell 119 rfl) (by decide) ?_
    refine lv_iadd hx hb (dq dt_X9_tell 120 rfl) ?_
    obtain ⟨v91, ev91, hi92, hF⟩ := rd_ hF
    refine kIald C hw 2 1 rfl rfl hi92 ev91 (dq dt_X9_tell 121 rfl) ?_
    obtain ⟨g93, eg93, hi94, hF⟩ := wr_ hF
    refine kIast (ws' := [(a_m, .inr (9, [.ref a_m_row, .ref a_m_isKept, .ref a_m_text, .int m_length, .ref a_m_read, .int m_readMany, .int m_yards, .ref a_m_tides, .ref a_m_seeps, .int m_seepMany, .ref a_m_kinds, .ref a_m_paces, .ref a_m_ears, .int m_many, .int m_at, .int m_place, .int m_end, .int m_readYards, .int m_readSeeps, .int m_readChildren, .ref a_m_hearers, .ref a_m_chosen, .int m_chosenMany, .ref a_m_dues, .ref a_m_sights, .int m_seenMany])), (a_m_row, .inl (cI, 95, .inl g89)), (a_m_read, .inl (cI, 60, .inl m_read)), (a_m_tides, .inl (cI, 12, .inl m_tides)), (a_m_seeps, .inl (cI, 18, .inl m_seeps)), (a_m_kinds, .inl (cI, 5, .inl g87)), (a_m_paces, .inl (cI, 5, .inl g93)), (a_m_ears, .inl (cI, 5, .inl m_ears))]) C hw 6 1 rfl rfl hi94 eg93 rfl (dq dt_X9_tell 122 rfl) (fun H locs hw => ?_)
    refine lv_aload_n hx hb (dq dt_X9_tell 123 rfl) rfl (lv_at hl 1 rfl) ?_
    refine kGet (ci := 9) C in_X9 hw 0 rfl rfl 12 (by decide) (C.2.2.2.2.2.2.1 _ q4_107) rfl rfl (dq dt_X9_tell 124 rfl) ?_
    refine lv_aload_n hx hb (dq dt_X9_tell 125 rfl) rfl (lv_at hl 1 rfl) ?_
    refine kGet (ci := 9) C in_X9 hw 0 rfl rfl 13 (by decide) (C.2.2.2.2.2.2.1 _ q4_108) rfl rfl (dq dt_X9_tell 126 rfl) ?_
    refine lv_aload_n hx hb (dq dt_X9_tell 127 rfl) rfl (lv_at hl 1 rfl) ?_
    refine kGet (ci := 9) C in_X9 hw 0 rfl rfl 4 (by decide) (C.2.2.2.2.2.2.1 _ q4_99) rfl rfl (dq dt_X9_tell 128 rfl) ?_
    refine lv_iload_n hx hb (dq dt_X9_tell 129 rfl) rfl (lv_at hl 2 rfl) ?_
    refine lv_iconst (v := (3 : Int32)) hx hb (dq dt_X9_tell 130 rfl) (by decide) ?_
    refine lv_iadd hx hb (dq dt_X9_tell 131 rfl) ?_
    obtain ⟨v95, ev95, hi96, hF⟩ := rd_ hF
    refine kIald C hw 2 1 rfl rfl hi96 ev95 (dq dt_X9_tell 132 rfl) ?_
    obtain ⟨g97, eg97, hi98, hF⟩ := wr_ hF
    refine kIast (ws' := [(a_m, .inr (9, [.ref a_m_row, .ref a_m_isKept, .ref a_m_text, .int m_length, .ref a_m_read, .int m_readMany, .int m_yards, .ref a_m_tides, .ref a_m_seeps, .int m_seepMany, .ref a_m_kinds, .ref a_m_paces, .ref a_m_ears, .int m_many, .int m_at, .int m_place, .int m_end, .int m_readYards, .int m_readSeeps, .int m_readChildren, .ref a_m_hearers, .ref a_m_chosen, .int m_chosenMany, .ref a_m_dues, .ref a_m_sights, .int m_seenMany])), (a_m_row, .inl (cI, 95, .inl g89)), (a_m_read, .inl (cI, 60, .inl m_read)), (a_m_tides, .inl (cI, 12, .inl m_tides)), (a_m_seeps, .inl (cI, 18, .inl m_seeps)), (a_m_kinds, .inl (cI, 5, .inl g87)), (a_m_paces, .inl (cI, 5, .inl g93)), (a_m_ears, .inl (cI, 5, .inl g97))]) C hw 7 1 rfl rfl hi98 eg97 rfl (dq dt_X9_tell 133 rfl) (fun H locs hw => ?_)
    refine lv_aload_n hx hb (dq dt_X9_tell 134 rfl) rfl (lv_at hl 1 rfl) ?_
    refine lv_dup hx hb (dq dt_X9_tell 135 rfl) rfl ?_
    refine kGet (ci := 9) C in_X9 hw 0 rfl rfl 13 (by decide) (C.2.2.2.2.2.2.1 _ q4_108) rfl rfl (dq dt_X9_tell 136 rfl) ?_
    refine lv_iconst (v := (1 : Int32)) hx hb (dq dt_X9_tell 137 rfl) (by decide) ?_
    refine lv_iadd hx hb (dq dt_X9_tell 138 rfl) ?_
    obtain ⟨v99, ev99, hF⟩ := bd_ hF
    refine kNmI ev99 ?_
    refine kPut (ci := 9) (ws' := [(a_m, .inr (9, [.ref a_m_row, .ref a_m_isKept, .ref a_m_text, .int m_length, .ref a_m_read, .int m_readMany, .int m_yards, .ref a_m_tides, .ref a_m_seeps, .int m_seepMany, .ref a_m_kinds, .ref a_m_paces, .ref a_m_ears, .int v99, .int m_at, .int m_place, .int m_end, .int m_readYards, .int m_readSeeps, .int m_readChildren, .ref a_m_hearers, .ref a_m_chosen, .int m_chosenMany, .ref a_m_dues, .ref a_m_sights, .int m_seenMany])), (a_m_row, .inl (cI, 95, .inl g89)), (a_m_read, .inl (cI, 60, .inl m_read)), (a_m_tides, .inl (cI, 12, .inl m_tides)), (a_m_seeps, .inl (cI, 18, .inl m_seeps)), (a_m_kinds, .inl (cI, 5, .inl g87)), (a_m_paces, .inl (cI, 5, .inl g93)), (a_m_ears, .inl (cI, 5, .inl g97))]) C in_X9 tyX9 tyX9_ok nmX9 hw 0 rfl rfl 13 (by decide) (C.2.2.2.2.2.2.1 _ q4_108) rfl rfl rfl rfl (Nat.le_of_ble_eq_true rfl) rfl (dq dt_X9_tell 139 rfl) (fun H locs hw => ?_)
    cases hF
    exact kRetV hQ C hw (dq dt_X9_tell 140 rfl)
  replace hF := if_f c83 hF
  by_cases c100 : v3 = (7 : Int32)
  · replace hF := if_t c100 hF
    refine lv_tableIn (lo := 0) (hi := 8) (tgt := 170) hx hb (dq dt_X9_tell 11 rfl) (by rw [c100]; decide) (by rw [c100]; decide) (by rw [c100]; rfl) (by decide) ?_
    refine lv_aload_n hx hb (dq dt_X9_tell 85 rfl) rfl (lv_at hl 1 rfl) ?_
    refine lv_iconst (v := (0 : Int32)) hx hb (dq dt_X9_tell 86 rfl) (by decide) ?_
    refine kPut (ci := 9) (ws' := [(a_m, .inr (9, [.ref a_m_row, .ref a_m_isKept, .ref a_m_text, .int m_length, .ref a_m_read, .int m_readMany, .int m_yards, .ref a_m_tides, .ref a_m_seeps, .int (0 : Int32), .ref a_m_kinds, .ref a_m_paces, .ref a_m_ears, .int m_many, .int m_at, .int m_place, .int m_end, .int m_readYards, .int m_readSeeps, .int m_readChildren, .ref a_m_hearers, .ref a_m_chosen, .int m_chosenMany, .ref a_m_dues, .ref a_m_sights, .int m_seenMany])), (a_m_row, .inl (cI, 95, .inl m_row)), (a_m_read, .inl (cI, 60, .inl m_read)), (a_m_tides, .inl (cI, 12, .inl m_tides)), (a_m_seeps, .inl (cI, 18, .inl m_seeps)), (a_m_kinds, .inl (cI, 5, .inl m_kinds)), (a_m_paces, .inl (cI, 5, .inl m_paces)), (a_m_ears, .inl (cI, 5, .inl m_ears))]) C in_X9 tyX9 tyX9_ok nmX9 hw 0 rfl rfl 9 (by decide) (C.2.2.2.2.2.2.1 _ q4_104) rfl rfl rfl rfl (Nat.le_of_ble_eq_true rfl) rfl (dq dt_X9_tell 87 rfl) (fun H locs hw => ?_)
    cases hF
    exact kRetV hQ C hw (dq dt_X9_tell 88 rfl)
  replace hF := if_f c100 hF
  by_cases c101 : v3 = (8 : Int32)
  · replace hF := if_t c101 hF
    refine lv_tableIn (lo := 0) (hi := 8) (tgt := 176) hx hb (dq dt_X9_tell 11 rfl) (by rw [c101]; decide) (by rw [c101]; decide) (by rw [c101]; rfl) (by decide) ?_
    refine lv_aload_n hx hb (dq dt_X9_tell 89 rfl) rfl (lv_at hl 1 rfl) ?_
    refine lv_iconst (v := (0 : Int32)) hx hb (dq dt_X9_tell 90 rfl) (by decide) ?_
    refine kPut (ci := 9) (ws' := [(a_m, .inr (9, [.ref a_m_row, .ref a_m_isKept, .ref a_m_text, .int m_length, .ref a_m_read, .int m_readMany, .int m_yards, .ref a_m_tides, .ref a_m_seeps, .int m_seepMany, .ref a_m_kinds, .ref a_m_paces, .ref a_m_ears, .int (0 : Int32), .int m_at, .int m_place, .int m_end, .int m_readYards, .int m_readSeeps, .int m_readChildren, .ref a_m_hearers, .ref a_m_chosen, .int m_chosenMany, .ref a_m_dues, .ref a_m_sights, .int m_seenMany])), (a_m_row, .inl (cI, 95, .inl m_row)), (a_m_read, .inl (cI, 60, .inl m_read)), (a_m_tides, .inl (cI, 12, .inl m_tides)), (a_m_seeps, .inl (cI, 18, .inl m_seeps)), (a_m_kinds, .inl (cI, 5, .inl m_kinds)), (a_m_paces, .inl (cI, 5, .inl m_paces)), (a_m_ears, .inl (cI, 5, .inl m_ears))]) C in_X9 tyX9 tyX9_ok nmX9 hw 0 rfl rfl 13 (by decide) (C.2.2.2.2.2.2.1 _ q4_108) rfl rfl rfl rfl (Nat.le_of_ble_eq_true rfl) rfl (dq dt_X9_tell 91 rfl) (fun H locs hw => ?_)
    cases hF
    exact kRetV hQ C hw (dq dt_X9_tell 92 rfl)
  replace hF := if_f c101 hF
  refine lv_tableOut (lo := 0) (hi := 8) (tgt := 182) hx hb (dq dt_X9_tell 11 rfl) (tb_out (n := 9) (by decide) (fun i hi => by match i, hi with | 0, _ => exact c5 | 1, _ => exact c11 | 2, _ => exact c16 | 3, _ => exact c32 | 4, _ => exact c49 | 5, _ => exact c66 | 6, _ => exact c83 | 7, _ => exact c100 | 8, _ => exact c101 | i + 9, hi => exact absurd hi (by omega))) (by decide) ?_
  refine lv_aload_n hx hb (dq dt_X9_tell 93 rfl) rfl (lv_at hl 1 rfl) ?_
  refine kGet (ci := 9) C in_X9 hw 0 rfl rfl 10 (by decide) (C.2.2.2.2.2.2.1 _ q4_105) rfl rfl (dq dt_X9_tell 94 rfl) ?_
  refine lv_aload_n hx hb (dq dt_X9_tell 95 rfl) rfl (lv_at hl 1 rfl) ?_
  refine kGet (ci := 9) C in_X9 hw 0 rfl rfl 13 (by decide) (C.2.2.2.2.2.2.1 _ q4_108) rfl rfl (dq dt_X9_tell 96 rfl) ?_
  refine lv_aload_n hx hb (dq dt_X9_tell 97 rfl) rfl (lv_at hl 1 rfl) ?_
  refine kGet (ci := 9) C in_X9 hw 0 rfl rfl 4 (by decide) (C.2.2.2.2.2.2.1 _ q4_99) rfl rfl (dq dt_X9_tell 98 rfl) ?_
  refine lv_iload_n hx hb (dq dt_X9_tell 99 rfl) rfl (lv_at hl 2 rfl) ?_
  obtain ⟨v102, ev102, hi103, hF⟩ := rd_ hF
  refine kIald C hw 2 1 rfl rfl hi103 ev102 (dq dt_X9_tell 100 rfl) ?_
  refine lv_iconst (v := (3 : Int32)) hx hb (dq dt_X9_tell 101 rfl) (by decide) ?_
  refine lv_isub hx hb (dq dt_X9_tell 102 rfl) ?_
  obtain ⟨v104, ev104, hF⟩ := bd_ hF
  refine kNmI ev104 ?_
  obtain ⟨g105, eg105, hi106, hF⟩ := wr_ hF
  refine kIast (ws' := [(a_m, .inr (9, [.ref a_m_row, .ref a_m_isKept, .ref a_m_text, .int m_length, .ref a_m_read, .int m_readMany, .int m_yards, .ref a_m_tides, .ref a_m_seeps, .int m_seepMany, .ref a_m_kinds, .ref a_m_paces, .ref a_m_ears, .int m_many, .int m_at, .int m_place, .int m_end, .int m_readYards, .int m_readSeeps, .int m_readChildren, .ref a_m_hearers, .ref a_m_chosen, .int m_chosenMany, .ref a_m_dues, .ref a_m_sights, .int m_seenMany])), (a_m_row, .inl (cI, 95, .inl m_row)), (a_m_read, .inl (cI, 60, .inl m_read)), (a_m_tides, .inl (cI, 12, .inl m_tides)), (a_m_seeps, .inl (cI, 18, .inl m_seeps)), (a_m_kinds, .inl (cI, 5, .inl g105)), (a_m_paces, .inl (cI, 5, .inl m_paces)), (a_m_ears, .inl (cI, 5, .inl m_ears))]) C hw 5 1 rfl rfl hi106 eg105 rfl (dq dt_X9_tell 103 rfl) (fun H locs hw => ?_)
  refine lv_aload_n hx hb (dq dt_X9_tell 104 rfl) rfl (lv_at hl 1 rfl) ?_
  refine kGet (ci := 9) C in_X9 hw 0 rfl rfl 0 (by decide) (C.2.2.2.2.2.2.1 _ q4_95) rfl rfl (dq dt_X9_tell 105 rfl) ?_
  refine lv_bipush (v := (83 : Int32)) hx hb (dq dt_X9_tell 106 rfl) (by decide) ?_
  refine lv_aload_n hx hb (dq dt_X9_tell 107 rfl) rfl (lv_at hl 1 rfl) ?_
  refine kGet (ci := 9) C in_X9 hw 0 rfl rfl 13 (by decide) (C.2.2.2.2.2.2.1 _ q4_108) rfl rfl (dq dt_X9_tell 108 rfl) ?_
  refine lv_iadd hx hb (dq dt_X9_tell 109 rfl) ?_
  refine lv_iload_n hx hb (dq dt_X9_tell 110 rfl) rfl (lv_at hl 0 rfl) ?_
  obtain ⟨g107, eg107, hi108, hF⟩ := wr_ hF
  refine kIast (ws' := [(a_m, .inr (9, [.ref a_m_row, .ref a_m_isKept, .ref a_m_text, .int m_length, .ref a_m_read, .int m_readMany, .int m_yards, .ref a_m_tides, .ref a_m_seeps, .int m_seepMany, .ref a_m_kinds, .ref a_m_paces, .ref a_m_ears, .int m_many, .int m_at, .int m_place, .int m_end, .int m_readYards, .int m_readSeeps, .int m_readChildren, .ref a_m_hearers, .ref a_m_chosen, .int m_chosenMany, .ref a_m_dues, .ref a_m_sights, .int m_seenMany])), (a_m_row, .inl (cI, 95, .inl g107)), (a_m_read, .inl (cI, 60, .inl m_read)), (a_m_tides, .inl (cI, 12, .inl m_tides)), (a_m_seeps, .inl (cI, 18, .inl m_seeps)), (a_m_kinds, .inl (cI, 5, .inl g105)), (a_m_paces, .inl (cI, 5, .inl m_paces)), (a_m_ears, .inl (cI, 5, .inl m_ears))]) C hw 1 1 rfl rfl hi108 eg107 rfl (dq dt_X9_tell 111 rfl) (fun H locs hw => ?_)
  refine lv_aload_n hx hb (dq dt_X9_tell 112 rfl) rfl (lv_at hl 1 rfl) ?_
  refine kGet (ci := 9) C in_X9 hw 0 rfl rfl 11 (by decide) (C.2.2.2.2.2.2.1 _ q4_106) rfl rfl (dq dt_X9_tell 113 rfl) ?_
  refine lv_aload_n hx hb (dq dt_X9_tell 114 rfl) rfl (lv_at hl 1 rfl) ?_
  refine kGet (ci := 9) C in_X9 hw 0 rfl rfl 13 (by decide) (C.2.2.2.2.2.2.1 _ q4_108) rfl rfl (dq dt_X9_tell 115 rfl) ?_
  refine lv_aload_n hx hb (dq dt_X9_tell 116 rfl) rfl (lv_at hl 1 rfl) ?_
  refine kGet (ci := 9) C in_X9 hw 0 rfl rfl 4 (by decide) (C.2.2.2.2.2.2.1 _ q4_99) rfl rfl (dq dt_X9_tell 117 rfl) ?_
  refine lv_iload_n hx hb (dq dt_X9_tell 118 rfl) rfl (lv_at hl 2 rfl) ?_
  refine lv_iconst (v := (2 : Int32)) hx hb (dq dt_X9_tell 119 rfl) (by decide) ?_
  refine lv_iadd hx hb (dq dt_X9_tell 120 rfl) ?_
  obtain ⟨v109, ev109, hi110, hF⟩ := rd_ hF
  refine kIald C hw 2 1 rfl rfl hi110 ev109 (dq dt_X9_tell 121 rfl) ?_
  obtain ⟨g111, eg111, hi112, hF⟩ := wr_ hF
  refine kIast (ws' := [(a_m, .inr (9, [.ref a_m_row, .ref a_m_isKept, .ref a_m_text, .int m_length, .ref a_m_read, .int m_readMany, .int m_yards, .ref a_m_tides, .ref a_m_seeps, .int m_seepMany, .ref a_m_kinds, .ref a_m_paces, .ref a_m_ears, .int m_many, .int m_at, .int m_place, .int m_end, .int m_readYards, .int m_readSeeps, .int m_readChildren, .ref a_m_hearers, .ref a_m_chosen, .int m_chosenMany, .ref a_m_dues, .ref a_m_sights, .int m_seenMany])), (a_m_row, .inl (cI, 95, .inl g107)), (a_m_read, .inl (cI, 60, .inl m_read)), (a_m_tides, .inl (cI, 12, .inl m_tides)), (a_m_seeps, .inl (cI, 18, .inl m_seeps)), (a_m_kinds, .inl (cI, 5, .inl g105)), (a_m_paces, .inl (cI, 5, .inl g111)), (a_m_ears, .inl (cI, 5, .inl m_ears))]) C hw 6 1 rfl rfl hi112 eg111 rfl (dq dt_X9_tell 122 rfl) (fun H locs hw => ?_)
  refine lv_aload_n hx hb (dq dt_X9_tell 123 rfl) rfl (lv_at hl 1 rfl) ?_
  refine kGet (ci := 9) C in_X9 hw 0 rfl rfl 12 (by decide) (C.2.2.2.2.2.2.1 _ q4_107) rfl rfl (dq dt_X9_tell 124 rfl) ?_
  refine lv_aload_n hx hb (dq dt_X9_tell 125 rfl) rfl (lv_at hl 1 rfl) ?_
  refine kGet (ci := 9) C in_X9 hw 0 rfl rfl 13 (by decide) (C.2.2.2.2.2.2.1 _ q4_108) rfl rfl (dq dt_X9_tell 126 rfl) ?_
  refine lv_aload_n hx hb (dq dt_X9_tell 127 rfl) rfl (lv_at hl 1 rfl) ?_
  refine kGet (ci := 9) C in_X9 hw 0 rfl rfl 4 (by decide) (C.2.2.2.2.2.2.1 _ q4_99) rfl rfl (dq dt_X9_tell 128 rfl) ?_
  refine lv_iload_n hx hb (dq dt_X9_tell 129 rfl) rfl (lv_at hl 2 rfl) ?_
  refine lv_iconst (v := (3 : Int32)) hx hb (dq dt_X9_tell 130 rfl) (by decide) ?_
  refine lv_iadd hx hb (dq dt_X9_tell 131 rfl) ?_
  obtain ⟨v113, ev113, hi114, hF⟩ := rd_ hF
  refine kIald C hw 2 1 rfl rfl hi114 ev113 (dq dt_X9_tell 132 rfl) ?_
  obtain ⟨g115, eg115, hi116, hF⟩ := wr_ hF
  refine kIast (ws' := [(a_m, .inr (9, [.ref a_m_row, .ref a_m_isKept, .ref a_m_text, .int m_length, .ref a_m_read, .int m_readMany, .int m_yards, .ref a_m_tides, .ref a_m_seeps, .int m_seepMany, .ref a_m_kinds, .ref a_m_paces, .ref a_m_ears, .int m_many, .int m_at, .int m_place, .int m_end, .int m_readYards, .int m_readSeeps, .int m_readChildren, .ref a_m_hearers, .ref a_m_chosen, .int m_chosenMany, .ref a_m_dues, .ref a_m_sights, .int m_seenMany])), (a_m_row, .inl (cI, 95, .inl g107)), (a_m_read, .inl (cI, 60, .inl m_read)), (a_m_tides, .inl (cI, 12, .inl m_tides)), (a_m_seeps, .inl (cI, 18, .inl m_seeps)), (a_m_kinds, .inl (cI, 5, .inl g105)), (a_m_paces, .inl (cI, 5, .inl g111)), (a_m_ears, .inl (cI, 5, .inl g115))]) C hw 7 1 rfl rfl hi116 eg115 rfl (dq dt_X9_tell 133 rfl) (fun H locs hw => ?_)
  refine lv_aload_n hx hb (dq dt_X9_tell 134 rfl) rfl (lv_at hl 1 rfl) ?_
  refine lv_dup hx hb (dq dt_X9_tell 135 rfl) rfl ?_
  refine kGet (ci := 9) C in_X9 hw 0 rfl rfl 13 (by decide) (C.2.2.2.2.2.2.1 _ q4_108) rfl rfl (dq dt_X9_tell 136 rfl) ?_
  refine lv_iconst (v := (1 : Int32)) hx hb (dq dt_X9_tell 137 rfl) (by decide) ?_
  refine lv_iadd hx hb (dq dt_X9_tell 138 rfl) ?_
  obtain ⟨v117, ev117, hF⟩ := bd_ hF
  refine kNmI ev117 ?_
  refine kPut (ci := 9) (ws' := [(a_m, .inr (9, [.ref a_m_row, .ref a_m_isKept, .ref a_m_text, .int m_length, .ref a_m_read, .int m_readMany, .int m_yards, .ref a_m_tides, .ref a_m_seeps, .int m_seepMany, .ref a_m_kinds, .ref a_m_paces, .ref a_m_ears, .int v117, .int m_at, .int m_place, .int m_end, .int m_readYards, .int m_readSeeps, .int m_readChildren, .ref a_m_hearers, .ref a_m_chosen, .int m_chosenMany, .ref a_m_dues, .ref a_m_sights, .int m_seenMany])), (a_m_row, .inl (cI, 95, .inl g107)), (a_m_read, .inl (cI, 60, .inl m_read)), (a_m_tides, .inl (cI, 12, .inl m_tides)), (a_m_seeps, .inl (cI, 18, .inl m_seeps)), (a_m_kinds, .inl (cI, 5, .inl g105)), (a_m_paces, .inl (cI, 5, .inl g111)), (a_m_ears, .inl (cI, 5, .inl g115))]) C in_X9 tyX9 tyX9_ok nmX9 hw 0 rfl rfl 13 (by decide) (C.2.2.2.2.2.2.1 _ q4_108) rfl rfl rfl rfl (Nat.le_of_ble_eq_true rfl) rfl (dq dt_X9_tell 139 rfl) (fun H locs hw => ?_)
  cases hF
  exact kRetV hQ C hw (dq dt_X9_tell 140 rfl)
