/-! ===== the law: the loop ===== -/
def LW (D : va_G) (A : Nat → Prop) (H0 : Heap) (cB cI cJ cZ : ClassId) (a_d a_x a_t a_g a_r a_n a_k a_j a_f a_e a_z a_c a_x_signs a_t_tides a_t_seepYard a_t_seepSize a_t_growth a_t_level a_t_kind a_t_childYard a_t_pace a_t_ear a_g_tides a_g_seepYard a_g_seepSize a_g_growth a_g_level a_g_kind a_g_childYard a_g_pace a_g_ear a_n_size a_n_yard a_n_oranges a_k_size a_k_yard a_k_oranges a_j_size a_j_yard a_j_oranges a_h a_h_size a_h_yard a_h_oranges a_f_breakHour a_f_heardInTime a_e_breakHour a_e_row a_e_bestRow a_z_ways a_m a_m_row a_m_isKept a_m_text a_m_read a_m_tides a_m_seeps a_m_kinds a_m_paces a_m_ears a_m_hearers a_m_chosen a_m_dues a_m_sights : Nat) (H : Heap) (locs : List Loc) : Prop := ∃ (d_keptBits : Int32) (x_length : Int32) (x_signs : Nat → Int32) (t_yards : Int32) (t_seeps : Int32) (t_children : Int32) (t_tides : Nat → Int32) (t_seepYard : Nat → Int32) (t_seepSize : Nat → Int32) (t_growth : Nat → Int32) (t_level : Nat → Int32) (t_kind : Nat → Int32) (t_childYard : Nat → Int32) (t_pace : Nat → Int32) (t_ear : Nat → Int32) (g_yards : Int32) (g_seeps : Int32) (g_children : Int32) (g_tides : Nat → Int32) (g_seepYard : Nat → Int32) (g_seepSize : Nat → Int32) (g_growth : Nat → Int32) (g_level : Nat → Int32) (g_kind : Nat → Int32) (g_childYard : Nat → Int32) (g_pace : Nat → Int32) (g_ear : Nat → Int32) (r_sort : Int32) (r_begin : Int32) (r_end : Int32) (r_lines : Int32) (n_hours : Int32) (n_filled : Int32) (n_toLesser : Int32) (n_size : Nat → Int32) (n_yard : Nat → Int32) (n_oranges : Nat → Int32) (k_hours : Int32) (k_filled : Int32) (k_toLesser : Int32) (k_size : Nat → Int32) (k_yard : Nat → Int32) (k_oranges : Nat → Int32) (j_hours : Int32) (j_filled : Int32) (j_toLesser : Int32) (j_size : Nat → Int32) (j_yard : Nat → Int32) (j_oranges : Nat → Int32) (h_hours : Int32) (h_filled : Int32) (h_toLesser : Int32) (h_size : Nat → Int32) (h_yard : Nat → Int32) (h_oranges : Nat → Int32) (f_breakHour : Nat → Int32) (f_heardInTime : Nat → Int32) (e_length : Int32) (e_fewestLost : Int32) (e_breakHour : Nat → Int32) (e_row : Nat → Int32) (e_bestRow : Nat → Int32) (z_above : Int64) (z_below : Int64) (z_ways : Nat → Int64) (c_yards : Int32) (c_count : Int32) (c_possible : Int32) (m_length : Int32) (m_readMany : Int32) (m_yards : Int32) (m_seepMany : Int32) (m_many : Int32) (m_at : Int32) (m_place : Int32) (m_end : Int32) (m_readYards : Int32) (m_readSeeps : Int32) (m_readChildren : Int32) (m_chosenMany : Int32) (m_seenMany : Int32) (m_row : Nat → Int32) (m_isKept : Nat → Int32) (m_text : Nat → Int32) (m_read : Nat → Int32) (m_tides : Nat → Int32) (m_seeps : Nat → Int32) (m_kinds : Nat → Int32) (m_paces : Nat → Int32) (m_ears : Nat → Int32) (m_hearers : Nat → Int32) (m_chosen : Nat → Int32) (m_dues : Nat → Int32) (m_sights : Nat → Int32), INV d_keptBits x_length x_signs t_yards t_seeps t_children t_tides t_seepYard t_seepSize t_growth t_level t_kind t_childYard t_pace t_ear n_hours n_filled n_toLesser n_size n_yard n_oranges k_hours k_filled k_toLesser k_size k_yard k_oranges j_hours j_filled j_toLesser j_size j_yard j_oranges c_yards c_count c_possible m_length m_yards m_seepMany m_many m_seenMany m_row m_isKept m_text m_tides m_seeps m_kinds m_paces m_ears m_sights ∧ kW D A H0 [(a_d, .inr (8, [.ref a_x, .ref a_t, .ref a_g, .ref a_r, .ref a_n, .ref a_k, .ref a_j, .int d_keptBits, .ref a_f, .ref a_e, .ref a_z, .ref a_c])), (a_x, .inr (6, [.ref a_x_signs, .int x_length])), (a_x_signs, .inl (cB, 200, .inl x_signs)), (a_t, .inr (7, [.int t_yards, .ref a_t_tides, .int t_seeps, .ref a_t_seepYard, .ref a_t_seepSize, .ref a_t_growth, .ref a_t_level, .int t_children, .ref a_t_kind, .ref a_t_childYard, .ref a_t_pace, .ref a_t_ear])), (a_t_tides, .inl (cI, 12, .inl t_tides)), (a_t_seepYard, .inl (cI, 6, .inl t_seepYard)), (a_t_seepSize, .inl (cI, 6, .inl t_seepSize)), (a_t_growth, .inl (cI, 6, .inl t_growth)), (a_t_level, .inl (cI, 6, .inl t_level)), (a_t_kind, .inl (cI, 5, .inl t_kind)), (a_t_childYard, .inl (cI, 5, .inl t_childYard)), (a_t_pace, .inl (cI, 5, .inl t_pace)), (a_t_ear, .inl (cI, 5, .inl t_ear)), (a_g, .inr (7, [.int g_yards, .ref a_g_tides, .int g_seeps, .ref a_g_seepYard, .ref a_g_seepSize, .ref a_g_growth, .ref a_g_level, .int g_children, .ref a_g_kind, .ref a_g_childYard, .ref a_g_pace, .ref a_g_ear])), (a_g_tides, .inl (cI, 12, .inl g_tides)), (a_g_seepYard, .inl (cI, 6, .inl g_seepYard)), (a_g_seepSize, .inl (cI, 6, .inl g_seepSize)), (a_g_growth, .inl (cI, 6, .inl g_growth)), (a_g_level, .inl (cI, 6, .inl g_level)), (a_g_kind, .inl (cI, 5, .inl g_kind)), (a_g_childYard, .inl (cI, 5, .inl g_childYard)), (a_g_pace, .inl (cI, 5, .inl g_pace)), (a_g_ear, .inl (cI, 5, .inl g_ear)), (a_r, .inr (4, [.ref a_x, .ref a_g, .int r_sort, .int r_begin, .int r_end, .int r_lines])), (a_n, .inr (3, [.ref a_t, .int n_hours, .int n_filled, .ref a_n_size, .ref a_n_yard, .int n_toLesser, .ref a_n_oranges])), (a_n_size, .inl (cI, 6, .inl n_size)), (a_n_yard, .inl (cI, 5, .inl n_yard)), (a_n_oranges, .inl (cI, 5, .inl n_oranges)), (a_k, .inr (3, [.ref a_t, .int k_hours, .int k_filled, .ref a_k_size, .ref a_k_yard, .int k_toLesser, .ref a_k_oranges])), (a_k_size, .inl (cI, 6, .inl k_size)), (a_k_yard, .inl (cI, 5, .inl k_yard)), (a_k_oranges, .inl (cI, 5, .inl k_oranges)), (a_j, .inr (3, [.ref a_t, .int j_hours, .int j_filled, .ref a_j_size, .ref a_j_yard, .int j_toLesser, .ref a_j_oranges])), (a_j_size, .inl (cI, 6, .inl j_size)), (a_j_yard, .inl (cI, 5, .inl j_yard)), (a_j_oranges, .inl (cI, 5, .inl j_oranges)), (a_h, .inr (3, [.ref a_t, .int h_hours, .int h_filled, .ref a_h_size, .ref a_h_yard, .int h_toLesser, .ref a_h_oranges])), (a_h_size, .inl (cI, 6, .inl h_size)), (a_h_yard, .inl (cI, 5, .inl h_yard)), (a_h_oranges, .inl (cI, 5, .inl h_oranges)), (a_f, .inr (1, [.ref a_t, .ref a_n, .ref a_h, .ref a_f_breakHour, .ref a_f_heardInTime])), (a_f_breakHour, .inl (cI, 6, .inl f_breakHour)), (a_f_heardInTime, .inl (cI, 5, .inl f_heardInTime)), (a_e, .inr (2, [.ref a_t, .ref a_f, .ref a_e_breakHour, .ref a_e_row, .ref a_e_bestRow, .int e_length, .int e_fewestLost])), (a_e_breakHour, .inl (cI, 6, .inl e_breakHour)), (a_e_row, .inl (cI, 5, .inl e_row)), (a_e_bestRow, .inl (cI, 5, .inl e_bestRow)), (a_z, .inr (5, [.ref a_z_ways, .long z_above, .long z_below])), (a_z_ways, .inl (cJ, 19, .inr (.inl z_ways))), (a_c, .inr (0, [.int c_yards, .int c_count, .int c_possible])), (a_m, .inr (9, [.ref a_m_row, .ref a_m_isKept, .ref a_m_text, .int m_length, .ref a_m_read, .int m_readMany, .int m_yards, .ref a_m_tides, .ref a_m_seeps, .int m_seepMany, .ref a_m_kinds, .ref a_m_paces, .ref a_m_ears, .int m_many, .int m_at, .int m_place, .int m_end, .int m_readYards, .int m_readSeeps, .int m_readChildren, .ref a_m_hearers, .ref a_m_chosen, .int m_chosenMany, .ref a_m_dues, .ref a_m_sights, .int m_seenMany])), (a_m_row, .inl (cI, 95, .inl m_row)), (a_m_isKept, .inl (cZ, 2, .inl m_isKept)), (a_m_text, .inl (cI, 200, .inl m_text)), (a_m_read, .inl (cI, 60, .inl m_read)), (a_m_tides, .inl (cI, 12, .inl m_tides)), (a_m_seeps, .inl (cI, 18, .inl m_seeps)), (a_m_kinds, .inl (cI, 5, .inl m_kinds)), (a_m_paces, .inl (cI, 5, .inl m_paces)), (a_m_ears, .inl (cI, 5, .inl m_ears)), (a_m_hearers, .inl (cI, 6, .inl m_hearers)), (a_m_chosen, .inl (cI, 5, .inl m_chosen)), (a_m_dues, .inl (cI, 6, .inl m_dues)), (a_m_sights, .inl (cI, 27, .inl m_sights))] H locs
theorem law_go {L j : Nat} (hL : L ≤ 2560) (hj : 5 * j ≤ L) (h : ¬ nI (5 * j) > Int32.ofNat L - 5) : 5 * j + 5 ≤ L := by
  apply Nat.not_lt.mp
  intro hlt
  apply h
  show Int32.ofNat L - 5 < nI (5 * j)
  rw [Int32.lt_iff_toInt_lt, nI_toInt (by omega)]
  have e : (Int32.ofNat L - 5).toInt = (L : Int) - 5 := by
    show (nI L - nI 5).toInt = _
    rw [Int32.toInt_sub, nI_toInt (by omega), nI_toInt (by omega)]
    rw [Int.bmod_eq_of_le (by omega) (by omega)]
    rfl
  rw [e]
  omega
theorem law_in {L n : Nat} (hL : L ≤ 2560) (h : n < L) : vp_in (nI n) L := nI_in h (by omega)
set_option maxRecDepth 100000 in
set_option maxHeartbeats 8000000 in
theorem law_step {p : Program} {l : Launch} {e : Env} {s : State} {m : MethodId} {below : List Frame} {meth : Method} {c : Code} {D : va_G} {A : Nat → Prop} {cB cI cJ cZ : ClassId} {ad : (Nat → Nat) × (Nat → Nat)} {b L : Nat} {xs : Nat → Int32} {Q : State → Prop} {i : Int32} {a_d a_x a_t a_g a_r a_n a_k a_j a_f a_e a_z a_c a_x_signs a_t_tides a_t_seepYard a_t_seepSize a_t_growth a_t_level a_t_kind a_t_childYard a_t_pace a_t_ear a_g_tides a_g_seepYard a_g_seepSize a_g_growth a_g_level a_g_kind a_g_childYard a_g_pace a_g_ear a_n_size a_n_yard a_n_oranges a_k_size a_k_yard a_k_oranges a_j_size a_j_yard a_j_oranges a_h a_h_size a_h_yard a_h_oranges a_f_breakHour a_f_heardInTime a_e_breakHour a_e_row a_e_bestRow a_z_ways a_m a_m_row a_m_isKept a_m_text a_m_read a_m_tides a_m_seeps a_m_kinds a_m_paces a_m_ears a_m_hearers a_m_chosen a_m_dues a_m_sights : Nat} (C : kC p s m #[Value.ref b] meth c code 4 ret "DikeWatchLaw" D (kT cB cI cJ cZ) ad A) (hX : va_X b L xs s s.heap) (hbl : b < s.heap.size) (hbA : ¬ A b) (hgo : ¬ i > Int32.ofNat L - 5 → vp_in i L ∧ vp_in (i + (1 : Int32)) L ∧ vp_in (i + (2 : Int32)) L ∧ vp_in (i + (3 : Int32)) L ∧ vp_in (i + (4 : Int32)) L) (E : ∀ (H : Heap) (locs : List Loc) (ls : Array Slot), va_S A s.heap H locs → W p l e room_1 s m #[Value.ref b] below meth c H locs 64 984 Q (F0 m 860 ls [])) (J : ∀ (H : Heap) (locs : List Loc) (ls : Array Slot), ¬ i > Int32.ofNat L - 5 → LW D A s.heap cB cI cJ cZ a_d a_x a_t a_g a_r a_n a_k a_j a_f a_e a_z a_c a_x_signs a_t_tides a_t_seepYard a_t_seepSize a_t_growth a_t_level a_t_kind a_t_childYard a_t_pace a_t_ear a_g_tides a_g_seepYard a_g_seepSize a_g_growth a_g_level a_g_kind a_g_childYard a_g_pace a_g_ear a_n_size a_n_yard a_n_oranges a_k_size a_k_yard a_k_oranges a_j_size a_j_yard a_j_oranges a_h a_h_size a_h_yard a_h_oranges a_f_breakHour a_f_heardInTime a_e_breakHour a_e_row a_e_bestRow a_z_ways a_m a_m_row a_m_isKept a_m_text a_m_read a_m_tides a_m_seeps a_m_kinds a_m_paces a_m_ears a_m_hearers a_m_chosen a_m_dues a_m_sights H locs → lv_has ls 4 [(0, .ref b), (1, .ref a_d), (2, .ref a_m), (3, .int i)] → W p l e room_1 s m #[Value.ref b] below meth c H locs 64 984 Q (F0 m 854 ls [])) {H : Heap} {locs : List Loc} {ls : Array Slot} (hW : LW D A s.heap cB cI cJ cZ a_d a_x a_t a_g a_r a_n a_k a_j a_f a_e a_z a_c a_x_signs a_t_tides a_t_seepYard a_t_seepSize a_t_growth a_t_level a_t_kind a_t_childYard a_t_pace a_t_ear a_g_tides a_g_seepYard a_g_seepSize a_g_growth a_g_level a_g_kind a_g_childYard a_g_pace a_g_ear a_n_size a_n_yard a_n_oranges a_k_size a_k_yard a_k_oranges a_j_size a_j_yard a_j_oranges a_h a_h_size a_h_yard a_h_oranges a_f_breakHour a_f_heardInTime a_e_breakHour a_e_row a_e_bestRow a_z_ways a_m a_m_row a_m_isKept a_m_text a_m_read a_m_tides a_m_seeps a_m_kinds a_m_paces a_m_ears a_m_hearers a_m_chosen a_m_dues a_m_sights H locs) (hl : lv_has ls 4 [(0, .ref b), (1, .ref a_d), (2, .ref a_m), (3, .int i)]) : W p l e room_1 s m #[Value.ref b] below meth c H locs 64 984 Q (F0 m 18 ls []) := by
  have hx := C.1
  have hb := C.2.1
  obtain ⟨d_keptBits, x_length, x_signs, t_yards, t_seeps, t_children, t_tides, t_seepYard, t_seepSize, t_growth, t_level, t_kind, t_childYard, t_pace, t_ear, g_yards, g_seeps, g_children, g_tides, g_seepYard, g_seepSize, g_growth, g_level, g_kind, g_childYard, g_pace, g_ear, r_sort, r_begin, r_end, r_lines, n_hours, n_filled, n_toLesser, n_size, n_yard, n_oranges, k_hours, k_filled, k_toLesser, k_size, k_yard, k_oranges, j_hours, j_filled, j_toLesser, j_size, j_yard, j_oranges, h_hours, h_filled, h_toLesser, h_size, h_yard, h_oranges, f_breakHour, f_heardInTime, e_length, e_fewestLost, e_breakHour, e_row, e_bestRow, z_above, z_below, z_ways, c_yards, c_count, c_possible, m_length, m_readMany, m_yards, m_seepMany, m_many, m_at, m_place, m_end, m_readYards, m_readSeeps, m_readChildren, m_chosenMany, m_seenMany, m_row, m_isKept, m_text, m_read, m_tides, m_seeps, m_kinds, m_paces, m_ears, m_hearers, m_chosen, m_dues, m_sights, hI, hw⟩ := hW
  refine lv_iload_n hx hb (dq dt_L_law_0 10 rfl) rfl (lv_at hl 3 rfl) ?_
  refine lv_aload_n hx hb (dq dt_L_law_0 11 rfl) rfl (lv_at hl 0 rfl) ?_
  refine va_slen hx hb hX hbl hbA hw.2.2 (dq dt_L_law_0 12 rfl) ?_
  refine lv_iconst (v := 5) hx hb (dq dt_L_law_0 13 rfl) (by decide) ?_
  refine lv_isub hx hb (dq dt_L_law_0 14 rfl) ?_
  refine lv_icmp_gt (tgt := 860) hx hb (dq dt_L_law_0 15 rfl) (by decide) (fun cg => ?_) (fun cg => ?_)
  · exact E H locs ls hw.2.2
  obtain ⟨i0, i1, i2, i3, i4⟩ := hgo cg
  refine lv_aload_n hx hb (dq dt_L_law_0 16 rfl) rfl (lv_at hl 0 rfl) ?_
  refine lv_iload_n hx hb (dq dt_L_law_0 17 rfl) rfl (lv_at hl 3 rfl) ?_
  refine va_sld hx hb hX hbl hbA hw.2.2 i0 (dq dt_L_law_0 18 rfl) ?_
  refine lv_bipush (v := 31) hx hb (dq dt_L_law_0 19 rfl) (by decide) ?_
  refine lv_iand hx hb (dq dt_L_law_0 20 rfl) ?_
  generalize ((xs i.toNatClampNeg) &&& (31 : Int32)) = op
  by_cases c0 : op = (0 : Int32)
  · refine lv_tableIn (lo := 0) (hi := 24) (tgt := 148) hx hb (dq dt_L_law_0 21 rfl) (by rw [c0]; decide) (by rw [c0]; decide) (by rw [c0]; rfl) (by decide) ?_
    obtain ⟨r, x_length', x_signs', m_length', m_text', q1, q2, hI2⟩ := i_case0 (p3 := xs (i + (3 : Int32)).toNatClampNeg) (pL := ((((xs (i + (1 : Int32)).toNatClampNeg).toInt64) <<< ((32 : Int32).toInt64 &&& 63)) ||| (((xs (i + (2 : Int32)).toNatClampNeg).toInt64) &&& (4294967295 : Int64)))) hI
    exact L_case0 C hX hbl hbA i1 i2 i3 i4 q1 q2 (fun H locs ls hw hl => J H locs ls cg ⟨_, _, _, _, _, _, _, _, _, _, _, _, _, _, _, _, _, _, _, _, _, _, _, _, _, _, _, _, _, _, _, _, _, _, _, _, _, _, _, _, _, _, _, _, _, _, _, _, _, _, _, _, _, _, _, _, _, _, _, _, _, _, _, _, _, _, _, _, _, _, _, _, _, _, _, _, _, _, _, _, _, _, _, _, _, _, _, _, _, _, _, _, _, _, hI2, hw⟩ hl) hw hl
  by_cases c1 : op = (1 : Int32)
  · refine lv_tableIn (lo := 0) (hi := 24) (tgt := 211) hx hb (dq dt_L_law_0 21 rfl) (by rw [c1]; decide) (by rw [c1]; decide) (by rw [c1]; rfl) (by decide) ?_
    obtain ⟨r, x_length', m_length', q1, q2, hI2⟩ := i_case1 hI
    exact L_case1 C hX hbl hbA i1 i2 i3 i4 q1 q2 (fun H locs ls hw hl => J H locs ls cg ⟨_, _, _, _, _, _, _, _, _, _, _, _, _, _, _, _, _, _, _, _, _, _, _, _, _, _, _, _, _, _, _, _, _, _, _, _, _, _, _, _, _, _, _, _, _, _, _, _, _, _, _, _, _, _, _, _, _, _, _, _, _, _, _, _, _, _, _, _, _, _, _, _, _, _, _, _, _, _, _, _, _, _, _, _, _, _, _, _, _, _, _, _, _, _, hI2, hw⟩ hl) hw hl
  by_cases c2 : op = (2 : Int32)
  · refine lv_tableIn (lo := 0) (hi := 24) (tgt := 224) hx hb (dq dt_L_law_0 21 rfl) (by rw [c2]; decide) (by rw [c2]; decide) (by rw [c2]; rfl) (by decide) ?_
    obtain ⟨r, g_yards', g_seeps', g_children', g_tides', g_seepYard', g_seepSize', g_growth', g_level', g_kind', g_childYard', g_pace', g_ear', r_sort', r_begin', r_end', r_lines', m_readMany', m_at', m_place', m_end', m_readYards', m_readSeeps', m_readChildren', m_read', q1, q2, hI2⟩ := i_case2 hI
    exact L_case2 C hX hbl hbA i1 i2 i3 i4 q1 q2 (fun H locs ls hw hl => J H locs ls cg ⟨_, _, _, _, _, _, _, _, _, _, _, _, _, _, _, _, _, _, _, _, _, _, _, _, _, _, _, _, _, _, _, _, _, _, _, _, _, _, _, _, _, _, _, _, _, _, _, _, _, _, _, _, _, _, _, _, _, _, _, _, _, _, _, _, _, _, _, _, _, _, _, _, _, _, _, _, _, _, _, _, _, _, _, _, _, _, _, _, _, _, _, _, _, _, hI2, hw⟩ hl) hw hl
  by_cases c3 : op = (3 : Int32)
  · refine lv_tableIn (lo := 0) (hi := 24) (tgt := 237) hx hb (dq dt_L_law_0 21 rfl) (by rw [c3]; decide) (by rw [c3]; decide) (by rw [c3]; rfl) (by decide) ?_
    obtain ⟨r, d_keptBits', x_length', t_yards', t_seeps', t_children', t_tides', t_seepYard', t_seepSize', t_growth', t_level', t_kind', t_childYard', t_pace', t_ear', g_yards', g_seeps', g_children', g_tides', g_seepYard', g_seepSize', g_growth', g_level', g_kind', g_childYard', g_pace', g_ear', r_sort', r_begin', r_end', r_lines', n_hours', n_filled', n_toLesser', n_size', n_yard', n_oranges', c_yards', c_count', c_possible', m_length', m_readMany', m_yards', m_seepMany', m_many', m_at', m_place', m_end', m_readYards', m_readSeeps', m_readChildren', m_seenMany', m_row', m_isKept', m_read', m_tides', m_seeps', m_kinds', m_paces', m_ears', q1, q2, hI2⟩ := i_case3 hI
    exact L_case3 C hX hbl hbA i1 i2 i3 i4 q1 q2 (fun H locs ls hw hl => J H locs ls cg ⟨_, _, _, _, _, _, _, _, _, _, _, _, _, _, _, _, _, _, _, _, _, _, _, _, _, _, _, _, _, _, _, _, _, _, _, _, _, _, _, _, _, _, _, _, _, _, _, _, _, _, _, _, _, _, _, _, _, _, _, _, _, _, _, _, _, _, _, _, _, _, _, _, _, _, _, _, _, _, _, _, _, _, _, _, _, _, _, _, _, _, _, _, _, _, hI2, hw⟩ hl) hw hl
  by_cases c4 : op = (4 : Int32)
  · refine lv_tableIn (lo := 0) (hi := 24) (tgt := 250) hx hb (dq dt_L_law_0 21 rfl) (by rw [c4]; decide) (by rw [c4]; decide) (by rw [c4]; rfl) (by decide) ?_
    obtain ⟨r, q1, q2, hI2⟩ := i_case4 (p1 := xs (i + (1 : Int32)).toNatClampNeg) hI
    exact L_case4 C hX hbl hbA i1 i2 i3 i4 q1 q2 (fun H locs ls hw hl => J H locs ls cg ⟨_, _, _, _, _, _, _, _, _, _, _, _, _, _, _, _, _, _, _, _, _, _, _, _, _, _, _, _, _, _, _, _, _, _, _, _, _, _, _, _, _, _, _, _, _, _, _, _, _, _, _, _, _, _, _, _, _, _, _, _, _, _, _, _, _, _, _, _, _, _, _, _, _, _, _, _, _, _, _, _, _, _, _, _, _, _, _, _, _, _, _, _, _, _, hI2, hw⟩ hl) hw hl
  by_cases c5 : op = (5 : Int32)
  · refine lv_tableIn (lo := 0) (hi := 24) (tgt := 273) hx hb (dq dt_L_law_0 21 rfl) (by rw [c5]; decide) (by rw [c5]; decide) (by rw [c5]; rfl) (by decide) ?_
    obtain ⟨r, q1, q2, hI2⟩ := i_case5 (p1 := xs (i + (1 : Int32)).toNatClampNeg) (p2 := xs (i + (2 : Int32)).toNatClampNeg) hI
    exact L_case5 C hX hbl hbA i1 i2 i3 i4 q1 q2 (fun H locs ls hw hl => J H locs ls cg ⟨_, _, _, _, _, _, _, _, _, _, _, _, _, _, _, _, _, _, _, _, _, _, _, _, _, _, _, _, _, _, _, _, _, _, _, _, _, _, _, _, _, _, _, _, _, _, _, _, _, _, _, _, _, _, _, _, _, _, _, _, _, _, _, _, _, _, _, _, _, _, _, _, _, _, _, _, _, _, _, _, _, _, _, _, _, _, _, _, _, _, _, _, _, _, hI2, hw⟩ hl) hw hl
  by_cases c6 : op = (6 : Int32)
  · refine lv_tableIn (lo := 0) (hi := 24) (tgt := 306) hx hb (dq dt_L_law_0 21 rfl) (by rw [c6]; decide) (by rw [c6]; decide) (by rw [c6]; rfl) (by decide) ?_
    obtain ⟨r, q1, q2, hI2⟩ := i_case6 (p1 := xs (i + (1 : Int32)).toNatClampNeg) (p2 := xs (i + (2 : Int32)).toNatClampNeg) hI
    exact L_case6 C hX hbl hbA i1 i2 i3 i4 q1 q2 (fun H locs ls hw hl => J H locs ls cg ⟨_, _, _, _, _, _, _, _, _, _, _, _, _, _, _, _, _, _, _, _, _, _, _, _, _, _, _, _, _, _, _, _, _, _, _, _, _, _, _, _, _, _, _, _, _, _, _, _, _, _, _, _, _, _, _, _, _, _, _, _, _, _, _, _, _, _, _, _, _, _, _, _, _, _, _, _, _, _, _, _, _, _, _, _, _, _, _, _, _, _, _, _, _, _, hI2, hw⟩ hl) hw hl
  by_cases c7 : op = (7 : Int32)
  · refine lv_tableIn (lo := 0) (hi := 24) (tgt := 339) hx hb (dq dt_L_law_0 21 rfl) (by rw [c7]; decide) (by rw [c7]; decide) (by rw [c7]; rfl) (by decide) ?_
    obtain ⟨r, q1, q2, hI2⟩ := i_case7 (p1 := xs (i + (1 : Int32)).toNatClampNeg) (p2 := xs (i + (2 : Int32)).toNatClampNeg) hI
    exact L_case7 C hX hbl hbA i1 i2 i3 i4 q1 q2 (fun H locs ls hw hl => J H locs ls cg ⟨_, _, _, _, _, _, _, _, _, _, _, _, _, _, _, _, _, _, _, _, _, _, _, _, _, _, _, _, _, _, _, _, _, _, _, _, _, _, _, _, _, _, _, _, _, _, _, _, _, _, _, _, _, _, _, _, _, _, _, _, _, _, _, _, _, _, _, _, _, _, _, _, _, _, _, _, _, _, _, _, _, _, _, _, _, _, _, _, _, _, _, _, _, _, hI2, hw⟩ hl) hw hl
  by_cases c8 : op = (8 : Int32)
  · refine lv_tableIn (lo := 0) (hi := 24) (tgt := 372) hx hb (dq dt_L_law_0 21 rfl) (by rw [c8]; decide) (by rw [c8]; decide) (by rw [c8]; rfl) (by decide) ?_
    obtain ⟨r, n_hours', n_toLesser', n_size', n_yard', m_row', q1, q2, hI2⟩ := i_case8 (p1 := xs (i + (1 : Int32)).toNatClampNeg) hI
    exact L_case8 C hX hbl hbA i1 i2 i3 i4 q1 q2 (fun H locs ls hw hl => J H locs ls cg ⟨_, _, _, _, _, _, _, _, _, _, _, _, _, _, _, _, _, _, _, _, _, _, _, _, _, _, _, _, _, _, _, _, _, _, _, _, _, _, _, _, _, _, _, _, _, _, _, _, _, _, _, _, _, _, _, _, _, _, _, _, _, _, _, _, _, _, _, _, _, _, _, _, _, _, _, _, _, _, _, _, _, _, _, _, _, _, _, _, _, _, _, _, _, _, hI2, hw⟩ hl) hw hl
  by_cases c9 : op = (9 : Int32)
  · refine lv_tableIn (lo := 0) (hi := 24) (tgt := 395) hx hb (dq dt_L_law_0 21 rfl) (by rw [c9]; decide) (by rw [c9]; decide) (by rw [c9]; rfl) (by decide) ?_
    obtain ⟨r, n_filled', n_oranges', m_row', q1, q2, hI2⟩ := i_case9 (p1 := xs (i + (1 : Int32)).toNatClampNeg) hI
    exact L_case9 C hX hbl hbA i1 i2 i3 i4 q1 q2 (fun H locs ls hw hl => J H locs ls cg ⟨_, _, _, _, _, _, _, _, _, _, _, _, _, _, _, _, _, _, _, _, _, _, _, _, _, _, _, _, _, _, _, _, _, _, _, _, _, _, _, _, _, _, _, _, _, _, _, _, _, _, _, _, _, _, _, _, _, _, _, _, _, _, _, _, _, _, _, _, _, _, _, _, _, _, _, _, _, _, _, _, _, _, _, _, _, _, _, _, _, _, _, _, _, _, hI2, hw⟩ hl) hw hl
  by_cases c10 : op = (10 : Int32)
  · refine lv_tableIn (lo := 0) (hi := 24) (tgt := 418) hx hb (dq dt_L_law_0 21 rfl) (by rw [c10]; decide) (by rw [c10]; decide) (by rw [c10]; rfl) (by decide) ?_
    obtain ⟨r, d_keptBits', k_hours', k_filled', k_toLesser', k_size', k_yard', k_oranges', j_hours', j_filled', j_toLesser', j_size', j_yard', j_oranges', m_row', m_isKept', q1, q2, hI2⟩ := i_case10 (p1 := xs (i + (1 : Int32)).toNatClampNeg) hI
    exact L_case10 C hX hbl hbA i1 i2 i3 i4 q1 q2 (fun H locs ls hw hl => J H locs ls cg ⟨_, _, _, _, _, _, _, _, _, _, _, _, _, _, _, _, _, _, _, _, _, _, _, _, _, _, _, _, _, _, _, _, _, _, _, _, _, _, _, _, _, _, _, _, _, _, _, _, _, _, _, _, _, _, _, _, _, _, _, _, _, _, _, _, _, _, _, _, _, _, _, _, _, _, _, _, _, _, _, _, _, _, _, _, _, _, _, _, _, _, _, _, _, _, hI2, hw⟩ hl) hw hl
  by_cases c11 : op = (11 : Int32)
  · refine lv_tableIn (lo := 0) (hi := 24) (tgt := 441) hx hb (dq dt_L_law_0 21 rfl) (by rw [c11]; decide) (by rw [c11]; decide) (by rw [c11]; rfl) (by decide) ?_
    obtain ⟨r, n_hours', n_filled', n_toLesser', n_size', n_yard', n_oranges', m_row', q1, q2, hI2⟩ := i_case11 (p1 := xs (i + (1 : Int32)).toNatClampNeg) hI
    exact L_case11 C hX hbl hbA i1 i2 i3 i4 q1 q2 (fun H locs ls hw hl => J H locs ls cg ⟨_, _, _, _, _, _, _, _, _, _, _, _, _, _, _, _, _, _, _, _, _, _, _, _, _, _, _, _, _, _, _, _, _, _, _, _, _, _, _, _, _, _, _, _, _, _, _, _, _, _, _, _, _, _, _, _, _, _, _, _, _, _, _, _, _, _, _, _, _, _, _, _, _, _, _, _, _, _, _, _, _, _, _, _, _, _, _, _, _, _, _, _, _, _, hI2, hw⟩ hl) hw hl
  by_cases c12 : op = (12 : Int32)
  · refine lv_tableIn (lo := 0) (hi := 24) (tgt := 464) hx hb (dq dt_L_law_0 21 rfl) (by rw [c12]; decide) (by rw [c12]; decide) (by rw [c12]; rfl) (by decide) ?_
    obtain ⟨r, h_hours', h_filled', h_toLesser', h_size', h_yard', h_oranges', m_row', q1, q2, hI2⟩ := i_case12 (p1 := xs (i + (1 : Int32)).toNatClampNeg) (p2 := xs (i + (2 : Int32)).toNatClampNeg) (p3 := xs (i + (3 : Int32)).toNatClampNeg) hI
    exact L_case12 C hX hbl hbA i1 i2 i3 i4 q1 q2 (fun H locs ls hw hl => J H locs ls cg ⟨_, _, _, _, _, _, _, _, _, _, _, _, _, _, _, _, _, _, _, _, _, _, _, _, _, _, _, _, _, _, _, _, _, _, _, _, _, _, _, _, _, _, _, _, _, _, _, _, _, _, _, _, _, _, _, _, _, _, _, _, _, _, _, _, _, _, _, _, _, _, _, _, _, _, _, _, _, _, _, _, _, _, _, _, _, _, _, _, _, _, _, _, _, _, hI2, hw⟩ hl) hw hl
  by_cases c13 : op = (13 : Int32)
  · refine lv_tableIn (lo := 0) (hi := 24) (tgt := 507) hx hb (dq dt_L_law_0 21 rfl) (by rw [c13]; decide) (by rw [c13]; decide) (by rw [c13]; rfl) (by decide) ?_
    obtain ⟨r, m_row', q1, q2, hI2⟩ := i_case13 (p1 := xs (i + (1 : Int32)).toNatClampNeg) hI
    exact L_case13 C hX hbl hbA i1 i2 i3 i4 q1 q2 (fun H locs ls hw hl => J H locs ls cg ⟨_, _, _, _, _, _, _, _, _, _, _, _, _, _, _, _, _, _, _, _, _, _, _, _, _, _, _, _, _, _, _, _, _, _, _, _, _, _, _, _, _, _, _, _, _, _, _, _, _, _, _, _, _, _, _, _, _, _, _, _, _, _, _, _, _, _, _, _, _, _, _, _, _, _, _, _, _, _, _, _, _, _, _, _, _, _, _, _, _, _, _, _, _, _, hI2, hw⟩ hl) hw hl
  by_cases c14 : op = (14 : Int32)
  · refine lv_tableIn (lo := 0) (hi := 24) (tgt := 530) hx hb (dq dt_L_law_0 21 rfl) (by rw [c14]; decide) (by rw [c14]; decide) (by rw [c14]; rfl) (by decide) ?_
    obtain ⟨r, h_hours', h_filled', h_toLesser', h_size', h_yard', h_oranges', f_breakHour', m_row', m_hearers', q1, q2, hI2⟩ := i_case14 (p1 := xs (i + (1 : Int32)).toNatClampNeg) hI
    exact L_case14 C hX hbl hbA i1 i2 i3 i4 q1 q2 (fun H locs ls hw hl => J H locs ls cg ⟨_, _, _, _, _, _, _, _, _, _, _, _, _, _, _, _, _, _, _, _, _, _, _, _, _, _, _, _, _, _, _, _, _, _, _, _, _, _, _, _, _, _, _, _, _, _, _, _, _, _, _, _, _, _, _, _, _, _, _, _, _, _, _, _, _, _, _, _, _, _, _, _, _, _, _, _, _, _, _, _, _, _, _, _, _, _, _, _, _, _, _, _, _, _, hI2, hw⟩ hl) hw hl
  by_cases c15 : op = (15 : Int32)
  · refine lv_tableIn (lo := 0) (hi := 24) (tgt := 553) hx hb (dq dt_L_law_0 21 rfl) (by rw [c15]; decide) (by rw [c15]; decide) (by rw [c15]; rfl) (by decide) ?_
    obtain ⟨r, h_hours', h_filled', h_toLesser', h_size', h_yard', h_oranges', f_breakHour', f_heardInTime', m_row', m_hearers', q1, q2, hI2⟩ := i_case15 (p1 := xs (i + (1 : Int32)).toNatClampNeg) hI
    exact L_case15 C hX hbl hbA i1 i2 i3 i4 q1 q2 (fun H locs ls hw hl => J H locs ls cg ⟨_, _, _, _, _, _, _, _, _, _, _, _, _, _, _, _, _, _, _, _, _, _, _, _, _, _, _, _, _, _, _, _, _, _, _, _, _, _, _, _, _, _, _, _, _, _, _, _, _, _, _, _, _, _, _, _, _, _, _, _, _, _, _, _, _, _, _, _, _, _, _, _, _, _, _, _, _, _, _, _, _, _, _, _, _, _, _, _, _, _, _, _, _, _, hI2, hw⟩ hl) hw hl
  by_cases c16 : op = (16 : Int32)
  · refine lv_tableIn (lo := 0) (hi := 24) (tgt := 576) hx hb (dq dt_L_law_0 21 rfl) (by rw [c16]; decide) (by rw [c16]; decide) (by rw [c16]; rfl) (by decide) ?_
    obtain ⟨r, e_length', e_fewestLost', e_breakHour', e_row', e_bestRow', m_chosenMany', m_row', m_chosen', m_dues', q1, q2, hI2⟩ := i_case16 (p1 := xs (i + (1 : Int32)).toNatClampNeg) (p2 := xs (i + (2 : Int32)).toNatClampNeg) (p3 := xs (i + (3 : Int32)).toNatClampNeg) hI
    exact L_case16 C hX hbl hbA i1 i2 i3 i4 q1 q2 (fun H locs ls hw hl => J H locs ls cg ⟨_, _, _, _, _, _, _, _, _, _, _, _, _, _, _, _, _, _, _, _, _, _, _, _, _, _, _, _, _, _, _, _, _, _, _, _, _, _, _, _, _, _, _, _, _, _, _, _, _, _, _, _, _, _, _, _, _, _, _, _, _, _, _, _, _, _, _, _, _, _, _, _, _, _, _, _, _, _, _, _, _, _, _, _, _, _, _, _, _, _, _, _, _, _, hI2, hw⟩ hl) hw hl
  by_cases c17 : op = (17 : Int32)
  · refine lv_tableIn (lo := 0) (hi := 24) (tgt := 619) hx hb (dq dt_L_law_0 21 rfl) (by rw [c17]; decide) (by rw [c17]; decide) (by rw [c17]; rfl) (by decide) ?_
    obtain ⟨r, z_above', z_below', z_ways', q1, q2, hI2⟩ := i_case17 (p1 := xs (i + (1 : Int32)).toNatClampNeg) (p2 := xs (i + (2 : Int32)).toNatClampNeg) (p3 := xs (i + (3 : Int32)).toNatClampNeg) (p4 := xs (i + (4 : Int32)).toNatClampNeg) hI
    exact L_case17 C hX hbl hbA i1 i2 i3 i4 q1 q2 (fun H locs ls hw hl => J H locs ls cg ⟨_, _, _, _, _, _, _, _, _, _, _, _, _, _, _, _, _, _, _, _, _, _, _, _, _, _, _, _, _, _, _, _, _, _, _, _, _, _, _, _, _, _, _, _, _, _, _, _, _, _, _, _, _, _, _, _, _, _, _, _, _, _, _, _, _, _, _, _, _, _, _, _, _, _, _, _, _, _, _, _, _, _, _, _, _, _, _, _, _, _, _, _, _, _, hI2, hw⟩ hl) hw hl
  by_cases c18 : op = (18 : Int32)
  · refine lv_tableIn (lo := 0) (hi := 24) (tgt := 673) hx hb (dq dt_L_law_0 21 rfl) (by rw [c18]; decide) (by rw [c18]; decide) (by rw [c18]; rfl) (by decide) ?_
    obtain ⟨r, q1, q2, hI2⟩ := i_case18 (p1 := xs (i + (1 : Int32)).toNatClampNeg) (p2 := xs (i + (2 : Int32)).toNatClampNeg) hI
    exact L_case18 C hX hbl hbA i1 i2 i3 i4 q1 q2 (fun H locs ls hw hl => J H locs ls cg ⟨_, _, _, _, _, _, _, _, _, _, _, _, _, _, _, _, _, _, _, _, _, _, _, _, _, _, _, _, _, _, _, _, _, _, _, _, _, _, _, _, _, _, _, _, _, _, _, _, _, _, _, _, _, _, _, _, _, _, _, _, _, _, _, _, _, _, _, _, _, _, _, _, _, _, _, _, _, _, _, _, _, _, _, _, _, _, _, _, _, _, _, _, _, _, hI2, hw⟩ hl) hw hl
  by_cases c19 : op = (19 : Int32)
  · refine lv_tableIn (lo := 0) (hi := 24) (tgt := 706) hx hb (dq dt_L_law_0 21 rfl) (by rw [c19]; decide) (by rw [c19]; decide) (by rw [c19]; rfl) (by decide) ?_
    obtain ⟨r, c_count', c_possible', m_seenMany', m_sights', q1, q2, hI2⟩ := i_case19 (p1 := xs (i + (1 : Int32)).toNatClampNeg) (p2 := xs (i + (2 : Int32)).toNatClampNeg) (p3 := xs (i + (3 : Int32)).toNatClampNeg) hI
    exact L_case19 C hX hbl hbA i1 i2 i3 i4 q1 q2 (fun H locs ls hw hl => J H locs ls cg ⟨_, _, _, _, _, _, _, _, _, _, _, _, _, _, _, _, _, _, _, _, _, _, _, _, _, _, _, _, _, _, _, _, _, _, _, _, _, _, _, _, _, _, _, _, _, _, _, _, _, _, _, _, _, _, _, _, _, _, _, _, _, _, _, _, _, _, _, _, _, _, _, _, _, _, _, _, _, _, _, _, _, _, _, _, _, _, _, _, _, _, _, _, _, _, hI2, hw⟩ hl) hw hl
  by_cases c20 : op = (20 : Int32)
  · refine lv_tableIn (lo := 0) (hi := 24) (tgt := 749) hx hb (dq dt_L_law_0 21 rfl) (by rw [c20]; decide) (by rw [c20]; decide) (by rw [c20]; rfl) (by decide) ?_
    obtain ⟨r, c_count', c_possible', m_seenMany', m_sights', q1, q2, hI2⟩ := i_case20 (p1 := xs (i + (1 : Int32)).toNatClampNeg) (p2 := xs (i + (2 : Int32)).toNatClampNeg) hI
    exact L_case20 C hX hbl hbA i1 i2 i3 i4 q1 q2 (fun H locs ls hw hl => J H locs ls cg ⟨_, _, _, _, _, _, _, _, _, _, _, _, _, _, _, _, _, _, _, _, _, _, _, _, _, _, _, _, _, _, _, _, _, _, _, _, _, _, _, _, _, _, _, _, _, _, _, _, _, _, _, _, _, _, _, _, _, _, _, _, _, _, _, _, _, _, _, _, _, _, _, _, _, _, _, _, _, _, _, _, _, _, _, _, _, _, _, _, _, _, _, _, _, _, hI2, hw⟩ hl) hw hl
  by_cases c21 : op = (21 : Int32)
  · refine lv_tableIn (lo := 0) (hi := 24) (tgt := 782) hx hb (dq dt_L_law_0 21 rfl) (by rw [c21]; decide) (by rw [c21]; decide) (by rw [c21]; rfl) (by decide) ?_
    obtain ⟨r, c_yards', c_count', c_possible', m_seenMany', q1, q2, hI2⟩ := i_case21 hI
    exact L_case21 C hX hbl hbA i1 i2 i3 i4 q1 q2 (fun H locs ls hw hl => J H locs ls cg ⟨_, _, _, _, _, _, _, _, _, _, _, _, _, _, _, _, _, _, _, _, _, _, _, _, _, _, _, _, _, _, _, _, _, _, _, _, _, _, _, _, _, _, _, _, _, _, _, _, _, _, _, _, _, _, _, _, _, _, _, _, _, _, _, _, _, _, _, _, _, _, _, _, _, _, _, _, _, _, _, _, _, _, _, _, _, _, _, _, _, _, _, _, _, _, hI2, hw⟩ hl) hw hl
  by_cases c22 : op = (22 : Int32)
  · refine lv_tableIn (lo := 0) (hi := 24) (tgt := 795) hx hb (dq dt_L_law_0 21 rfl) (by rw [c22]; decide) (by rw [c22]; decide) (by rw [c22]; rfl) (by decide) ?_
    obtain ⟨r, q1, q2, hI2⟩ := i_case22 hI
    exact L_case22 C hX hbl hbA i1 i2 i3 i4 q1 q2 (fun H locs ls hw hl => J H locs ls cg ⟨_, _, _, _, _, _, _, _, _, _, _, _, _, _, _, _, _, _, _, _, _, _, _, _, _, _, _, _, _, _, _, _, _, _, _, _, _, _, _, _, _, _, _, _, _, _, _, _, _, _, _, _, _, _, _, _, _, _, _, _, _, _, _, _, _, _, _, _, _, _, _, _, _, _, _, _, _, _, _, _, _, _, _, _, _, _, _, _, _, _, _, _, _, _, hI2, hw⟩ hl) hw hl
  by_cases c23 : op = (23 : Int32)
  · refine lv_tableIn (lo := 0) (hi := 24) (tgt := 808) hx hb (dq dt_L_law_0 21 rfl) (by rw [c23]; decide) (by rw [c23]; decide) (by rw [c23]; rfl) (by decide) ?_
    obtain ⟨r, q1, q2, hI2⟩ := i_case23 (p1 := xs (i + (1 : Int32)).toNatClampNeg) hI
    exact L_case23 C hX hbl hbA i1 i2 i3 i4 q1 q2 (fun H locs ls hw hl => J H locs ls cg ⟨_, _, _, _, _, _, _, _, _, _, _, _, _, _, _, _, _, _, _, _, _, _, _, _, _, _, _, _, _, _, _, _, _, _, _, _, _, _, _, _, _, _, _, _, _, _, _, _, _, _, _, _, _, _, _, _, _, _, _, _, _, _, _, _, _, _, _, _, _, _, _, _, _, _, _, _, _, _, _, _, _, _, _, _, _, _, _, _, _, _, _, _, _, _, hI2, hw⟩ hl) hw hl
  by_cases c24 : op = (24 : Int32)
  · refine lv_tableIn (lo := 0) (hi := 24) (tgt := 831) hx hb (dq dt_L_law_0 21 rfl) (by rw [c24]; decide) (by rw [c24]; decide) (by rw [c24]; rfl) (by decide) ?_
    obtain ⟨r, q1, q2, hI2⟩ := i_case24 (p1 := xs (i + (1 : Int32)).toNatClampNeg) hI
    exact L_case24 C hX hbl hbA i1 i2 i3 i4 q1 q2 (fun H locs ls hw hl => J H locs ls cg ⟨_, _, _, _, _, _, _, _, _, _, _, _, _, _, _, _, _, _, _, _, _, _, _, _, _, _, _, _, _, _, _, _, _, _, _, _, _, _, _, _, _, _, _, _, _, _, _, _, _, _, _, _, _, _, _, _, _, _, _, _, _, _, _, _, _, _, _, _, _, _, _, _, _, _, _, _, _, _, _, _, _, _, _, _, _, _, _, _, _, _, _, _, _, _, hI2, hw⟩ hl) hw hl
  refine lv_tableOut (lo := 0) (hi := 24) (tgt := 854) hx hb (dq dt_L_law_0 21 rfl) (tb_out (n := 25) (by decide) (fun i hi => ?_)) (by decide) ?_
  · match i, hi with
    | 0, _ => exact c0
    | 1, _ => exact c1
    | 2, _ => exact c2
    | 3, _ => exact c3
    | 4, _ => exact c4
    | 5, _ => exact c5
    | 6, _ => exact c6
    | 7, _ => exact c7
    | 8, _ => exact c8
    | 9, _ => exact c9
    | 10, _ => exact c10
    | 11, _ => exact c11
    | 12, _ => exact c12
    | 13, _ => exact c13
    | 14, _ => exact c14
    | 15, _ => exact c15
    | 16, _ => exact c16
    | 17, _ => exact c17
    | 18, _ => exact c18
    | 19, _ => exact c19
    | 20, _ => exact c20
    | 21, _ => exact c21
    | 22, _ => exact c22
    | 23, _ => exact c23
    | 24, _ => exact c24
    | n + 25, hi => exact absurd hi (by omega)
  exact J H locs ls cg ⟨_, _, _, _, _, _, _, _, _, _, _, _, _, _, _, _, _, _, _, _, _, _, _, _, _, _, _, _, _, _, _, _, _, _, _, _, _, _, _, _, _, _, _, _, _, _, _, _, _, _, _, _, _, _, _, _, _, _, _, _, _, _, _, _, _, _, _, _, _, _, _, _, _, _, _, _, _, _, _, _, _, _, _, _, _, _, _, _, _, _, _, _, _, _, hI, hw⟩ hl
set_option maxRecDepth 100000 in
set_option maxHeartbeats 8000000 in
theorem law_loop {p : Program} {l : Launch} {e : Env} {s : State} {m : MethodId} {below : List Frame} {meth : Method} {c : Code} {D : va_G} {A : Nat → Prop} {cB cI cJ cZ : ClassId} {ad : (Nat → Nat) × (Nat → Nat)} {b L : Nat} {xs : Nat → Int32} {Q : State → Prop} {a_d a_x a_t a_g a_r a_n a_k a_j a_f a_e a_z a_c a_x_signs a_t_tides a_t_seepYard a_t_seepSize a_t_growth a_t_level a_t_kind a_t_childYard a_t_pace a_t_ear a_g_tides a_g_seepYard a_g_seepSize a_g_growth a_g_level a_g_kind a_g_childYard a_g_pace a_g_ear a_n_size a_n_yard a_n_oranges a_k_size a_k_yard a_k_oranges a_j_size a_j_yard a_j_oranges a_h a_h_size a_h_yard a_h_oranges a_f_breakHour a_f_heardInTime a_e_breakHour a_e_row a_e_bestRow a_z_ways a_m a_m_row a_m_isKept a_m_text a_m_read a_m_tides a_m_seeps a_m_kinds a_m_paces a_m_ears a_m_hearers a_m_chosen a_m_dues a_m_sights : Nat} (C : kC p s m #[Value.ref b] meth c code 4 ret "DikeWatchLaw" D (kT cB cI cJ cZ) ad A) (hX : va_X b L xs s s.heap) (hbl : b < s.heap.size) (hbA : ¬ A b) (hL : L ≤ 2560) (E : ∀ (H : Heap) (locs : List Loc) (ls : Array Slot), va_S A s.heap H locs → W p l e room_1 s m #[Value.ref b] below meth c H locs 64 984 Q (F0 m 860 ls [])) : ∀ (d j : Nat), 5 * j ≤ L → L ≤ 5 * j + 5 * d → ∀ (H : Heap) (locs : List Loc) (ls : Array Slot), LW D A s.heap cB cI cJ cZ a_d a_x a_t a_g a_r a_n a_k a_j a_f a_e a_z a_c a_x_signs a_t_tides a_t_seepYard a_t_seepSize a_t_growth a_t_level a_t_kind a_t_childYard a_t_pace a_t_ear a_g_tides a_g_seepYard a_g_seepSize a_g_growth a_g_level a_g_kind a_g_childYard a_g_pace a_g_ear a_n_size a_n_yard a_n_oranges a_k_size a_k_yard a_k_oranges a_j_size a_j_yard a_j_oranges a_h a_h_size a_h_yard a_h_oranges a_f_breakHour a_f_heardInTime a_e_breakHour a_e_row a_e_bestRow a_z_ways a_m a_m_row a_m_isKept a_m_text a_m_read a_m_tides a_m_seeps a_m_kinds a_m_paces a_m_ears a_m_hearers a_m_chosen a_m_dues a_m_sights H locs → lv_has ls 4 [(0, .ref b), (1, .ref a_d), (2, .ref a_m), (3, .int (nI (5 * j)))] → W p l e room_1 s m #[Value.ref b] below meth c H locs 64 984 Q (F0 m 18 ls []) := by
  have hx := C.1
  have hb := C.2.1
  intro d
  induction d with
  | zero =>
    intro j hj hd H locs ls hW hl
    exact law_step C hX hbl hbA (fun h => absurd (law_go hL hj h) (by omega)) E (fun H locs ls h => absurd (law_go hL hj h) (by omega)) hW hl
  | succ d ih =>
    intro j hj hd H locs ls hW hl
    refine law_step C hX hbl hbA (fun h => ?_) E (fun H locs ls h hW hl => ?_) hW hl
    · have g := law_go hL hj h
      exact ⟨law_in hL (by omega), (nI_add (5 * j) 1).symm ▸ law_in hL (by omega), (nI_add (5 * j) 2).symm ▸ law_in hL (by omega), (nI_add (5 * j) 3).symm ▸ law_in hL (by omega), (nI_add (5 * j) 4).symm ▸ law_in hL (by omega)⟩
    · have g := law_go hL hj h
      refine lv_iinc (v := nI (5 * (j + 1))) (lv' := [(3, .int (nI (5 * (j + 1)))), (0, .ref b), (1, .ref a_d), (2, .ref a_m)]) hx hb (dq dt_L_law_5 72 rfl) hl (k := 3) rfl (nI_add (5 * j) 5) (by decide) rfl (fun ls hl => ?_)
      refine lv_goto (tgt := 18) hx hb (dq dt_L_law_5 73 rfl) (by decide) ?_
      exact ih (j + 1) (by omega) (by omega) H locs ls hW (lv_sub hl [1, 2, 3, 0] rfl)
