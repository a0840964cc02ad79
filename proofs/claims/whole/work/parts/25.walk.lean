def F_X4_isWord (x_length : Int32) (x_signs : Nat → Int32) (r_sort : Int32) (r_begin : Int32) (r_end : Int32) (p1 : Nat) : Option (Int32) :=
  if r_sort = (1 : Int32) then (bd (nI (sLen.getD p1 0)) (fun v2 => if (r_end - r_begin) = v2 then (zl1 (fun x4 ag5 => bd (nI (sLen.getD p1 0)) (fun v6 => if v6 ≤ x4 then (some (1 : Int32)) else (bd (r_begin + x4) (fun v8 => zc1 (F_X6_signAt x_length x_signs v8) (fun v9 => rd (sLen.getD p1 0) (sCh p1) x4 (fun v11 => if v9 = v11 then (bd (x4 + (1 : Int32)) (fun v14 => ag5 v14)) else (some (0 : Int32)))))))) FU (0 : Int32)) else (some (0 : Int32)))) else (some (0 : Int32))
abbrev rm_X4_isWord : Room := { frames := 6, cells := 0, slots := 0, locals := 160 }
theorem kd_X4_isWord : yX4_isWord.cls = RX4 ∧ yX4_isWord.cls ≠ "java/lang/invoke/MethodHandle" ∧ yX4_isWord.cls ≠ "java/lang/invoke/VarHandle" ∧ (parseMethodDescriptor yX4_isWord.desc).map (fun d => d.parameters.length) = some 1 := by decide +kernel
set_option maxRecDepth 100000 in
set_option maxHeartbeats 4000000 in
theorem A_X4_isWord (l : Launch) (D : va_G) (cB cI cJ cZ : ClassId) (ad : (Nat → Nat) × (Nat → Nat)) (a_x a_x_signs a_r a_g : Nat) (x_length : Int32) (x_signs : Nat → Int32) (r_sort : Int32) (r_begin : Int32) (r_end : Int32) (r_lines : Int32) (p1 : Nat) (r : Int32) (hs9 : p1 < 9) (hF : F_X4_isWord x_length x_signs r_sort r_begin r_end p1 = some r) : kM l yX4_isWord (Cond.code yX4_isWord cX4_isWord 3 (some .boolean) :: W0) rm_X4_isWord D (kT cB cI cJ cZ) ad [.ref a_r, .ref (ad.1 p1)] [(a_x, .inr (6, [.ref a_x_signs, .int x_length])), (a_x_signs, .inl (cB, 200, .inl x_signs)), (a_r, .inr (4, [.ref a_x, .ref a_g, .int r_sort, .int r_begin, .int r_end, .int r_lines]))] (some (.int r)) [(a_x, .inr (6, [.ref a_x_signs, .int x_length])), (a_x_signs, .inl (cB, 200, .inl x_signs)), (a_r, .inr (4, [.ref a_x, .ref a_g, .int r_sort, .int r_begin, .int r_end, .int r_lines]))] := by
  unfold F_X4_isWord at hF
  refine kStart (lv := [(0, .ref a_r), (1, .ref (ad.1 p1))]) (own := "DikeWatch$Reader") (plainFor_of_name (by decide)) rfl (Nat.le_of_ble_eq_true rfl) rfl ?_
  intro p e s m args below meth c A Q ls hQ C hx hb hw hl
  refine lv_aload_n hx hb (dq dt_X4_isWord 0 rfl) rfl (lv_at hl 0 rfl) ?_
  refine kGet (ci := 4) C in_X4 hw 2 rfl rfl 2 (by decide) (C.2.2.2.2.2.2.1 _ q1_178) rfl rfl (dq dt_X4_isWord 1 rfl) ?_
  refine lv_iconst (v := (1 : Int32)) hx hb (dq dt_X4_isWord 2 rfl) (by decide) ?_
  refine lv_icmp_ne (tgt := 24) hx hb (dq dt_X4_isWord 3 rfl) (by decide) (fun c1 => ?_) (fun c1 => ?_)
  · replace hF := if_f c1 hF
    refine lv_iconst (v := (0 : Int32)) hx hb (dq dt_X4_isWord 12 rfl) (by decide) ?_
    cases hF
    exact kRetZ hQ C rfl hw (dq dt_X4_isWord 13 rfl)
  · replace hF := if_t c1 hF
    refine lv_aload_n hx hb (dq dt_X4_isWord 4 rfl) rfl (lv_at hl 0 rfl) ?_
    refine kGet (ci := 4) C in_X4 hw 2 rfl rfl 4 (by decide) (C.2.2.2.2.2.2.1 _ q1_180) rfl rfl (dq dt_X4_isWord 5 rfl) ?_
    refine lv_aload_n hx hb (dq dt_X4_isWord 6 rfl) rfl (lv_at hl 0 rfl) ?_
    refine kGet (ci := 4) C in_X4 hw 2 rfl rfl 3 (by decide) (C.2.2.2.2.2.2.1 _ q1_179) rfl rfl (dq dt_X4_isWord 7 rfl) ?_
    refine lv_isub hx hb (dq dt_X4_isWord 8 rfl) ?_
    refine lv_aload_n hx hb (dq dt_X4_isWord 9 rfl) rfl (lv_at hl 1 rfl) ?_
    obtain ⟨v2, ev2, hF⟩ := bd_ hF
    refine kStrLen C hw hs9 ev2 q2_113 hl.1 (Nat.le_of_ble_eq_true rfl) (Nat.le_of_ble_eq_true rfl) (Nat.le_of_ble_eq_true rfl) ⟨Nat.le_of_ble_eq_true rfl, Nat.le_of_ble_eq_true rfl⟩ (dq dt_X4_isWord 10 rfl) (fun H locs hw => ?_)
    refine lv_icmp_eq (tgt := 26) hx hb (dq dt_X4_isWord 11 rfl) (by decide) (fun c3 => ?_) (fun c3 => ?_)
    · replace hF := if_t c3 hF
      refine lv_iconst (v := (0 : Int32)) hx hb (dq dt_X4_isWord 14 rfl) (by decide) ?_
      refine lv_istore_n (lv' := [(2, .int (0 : Int32)), (0, .ref a_r), (1, .ref (ad.1 p1))]) hx hb (dq dt_X4_isWord 15 rfl) rfl hl (by decide) rfl (fun ls hl => ?_)
      obtain ⟨K5, hK05, hK5, hF⟩ := zl1_ hF
      have L5 : ∀ (n : Nat) (x4 : Int32), K5 n x4 = some r → ∀ (H : Heap) (locs : List Loc) (ls : Array Slot), kW D A s.heap [(a_x, .inr (6, [.ref a_x_signs, .int x_length])), (a_x_signs, .inl (cB, 200, .inl x_signs)), (a_r, .inr (4, [.ref a_x, .ref a_g, .int r_sort, .int r_begin, .int r_end, .int r_lines]))] H locs → lv_has ls 3 [(0, .ref a_r), (1, .ref (ad.1 p1)), (2, .int x4)] → W p l e rm_X4_isWord s m args below meth c H locs 0 0 Q (F0 m 28 ls []) := by
        intro n
        induction n with
        | zero => intro x4 hF; exact (lp_no (hK05 x4) hF).elim
        | succ n ih5 =>
          intro x4 hF H locs ls hw hl
          replace hF := hK5 n x4 hF
          refine lv_iload_n hx hb (dq dt_X4_isWord 16 rfl) rfl (lv_at hl 2 rfl) ?_
          refine lv_aload_n hx hb (dq dt_X4_isWord 17 rfl) rfl (lv_at hl 1 rfl) ?_
          obtain ⟨v6, ev6, hF⟩ := bd_ hF
          refine kStrLen C hw hs9 ev6 q2_113 hl.1 (Nat.le_of_ble_eq_true rfl) (Nat.le_of_ble_eq_true rfl) (Nat.le_of_ble_eq_true rfl) ⟨Nat.le_of_ble_eq_true rfl, Nat.le_of_ble_eq_true rfl⟩ (dq dt_X4_isWord 18 rfl) (fun H locs hw => ?_)
          refine lv_icmp_ge (tgt := 65) hx hb (dq dt_X4_isWord 19 rfl) (by decide) (fun c7 => ?_) (fun c7 => ?_)
          · replace hF := if_t c7 hF
            refine lv_iconst (v := (1 : Int32)) hx hb (dq dt_X4_isWord 35 rfl) (by decide) ?_
            cases hF
            exact kRetZ hQ C rfl hw (dq dt_X4_isWord 36 rfl)
          · replace hF := if_f c7 hF
            refine lv_aload_n hx hb (dq dt_X4_isWord 20 rfl) rfl (lv_at hl 0 rfl) ?_
            refine kGet (ci := 4) C in_X4 hw 2 rfl rfl 0 (by decide) (C.2.2.2.2.2.2.1 _ q1_176) rfl rfl (dq dt_X4_isWord 21 rfl) ?_
            refine lv_aload_n hx hb (dq dt_X4_isWord 22 rfl) rfl (lv_at hl 0 rfl) ?_
            refine kGet (ci := 4) C in_X4 hw 2 rfl rfl 3 (by decide) (C.2.2.2.2.2.2.1 _ q1_179) rfl rfl (dq dt_X4_isWord 23 rfl) ?_
            refine lv_iload_n hx hb (dq dt_X4_isWord 24 rfl) rfl (lv_at hl 2 rfl) ?_
            refine lv_iadd hx hb (dq dt_X4_isWord 25 rfl) ?_
            obtain ⟨v8, ev8, hF⟩ := bd_ hF
            refine kNmI ev8 ?_
            obtain ⟨v9, hr10, hF⟩ := zc1_ hF
            refine kCallVR C hw (A_X6_signAt l D cB cI cJ cZ ad a_x a_x_signs x_length x_signs v8 v9 hr10) (cwV 1 C.2.2.2.2.2.2.1 (w0_V0 q2_104 q2_101 q2_102 q2_103 q1_2) rfl rfl rfl kd_X6_signAt ⟨Nat.le_of_ble_eq_true rfl, Nat.le_of_ble_eq_true rfl⟩) [0, 1] rfl rfl 0 6 rfl rfl hl.1 rfl rfl rfl (Nat.le_of_ble_eq_true rfl) ⟨Nat.le_of_ble_eq_true rfl, Nat.le_of_ble_eq_true rfl⟩ (dq dt_X4_isWord 26 rfl) (fun H locs hw => ?_)
            refine lv_aload_n hx hb (dq dt_X4_isWord 27 rfl) rfl (lv_at hl 1 rfl) ?_
            refine lv_iload_n hx hb (dq dt_X4_isWord 28 rfl) rfl (lv_at hl 2 rfl) ?_
            obtain ⟨v11, ev11, hi12, hF⟩ := rd_ hF
            refine kStrAt C hw hs9 hi12 ev11 q2_123 hl.1 (Nat.le_of_ble_eq_true rfl) (Nat.le_of_ble_eq_true rfl) (Nat.le_of_ble_eq_true rfl) ⟨Nat.le_of_ble_eq_true rfl, Nat.le_of_ble_eq_true rfl⟩ (dq dt_X4_isWord 29 rfl) (fun H locs hw => ?_)
            refine lv_icmp_eq (tgt := 59) hx hb (dq dt_X4_isWord 30 rfl) (by decide) (fun c13 => ?_) (fun c13 => ?_)
            · replace hF := if_t c13 hF
              obtain ⟨v14, ev14, hF⟩ := bd_ hF
              refine lv_iinc (v := v14) (lv' := [(2, .int v14), (0, .ref a_r), (1, .ref (ad.1 p1))]) hx hb (dq dt_X4_isWord 33 rfl) hl (k := 2) rfl ev14.symm (by decide) rfl (fun ls hl => ?_)
              refine lv_goto (tgt := 28) hx hb (dq dt_X4_isWord 34 rfl) (by decide) ?_
              exact ih5 v14 hF _ _ _ hw (lv_sub hl [1, 2, 0] rfl)
            · replace hF := if_f c13 hF
              refine lv_iconst (v := (0 : Int32)) hx hb (dq dt_X4_isWord 31 rfl) (by decide) ?_
              cases hF
              exact kRetZ hQ C rfl hw (dq dt_X4_isWord 32 rfl)
      exact L5 _ (0 : Int32) hF _ _ _ hw (lv_sub hl [1, 2, 0] rfl)
    · replace hF := if_f c3 hF
      refine lv_iconst (v := (0 : Int32)) hx hb (dq dt_X4_isWord 12 rfl) (by decide) ?_
      cases hF
      exact kRetZ hQ C rfl hw (dq dt_X4_isWord 13 rfl)
def F_X4_kindOfWord (x_length : Int32) (x_signs : Nat → Int32) (r_sort : Int32) (r_begin : Int32) (r_end : Int32) : Option (Int32) :=
  zc1 (F_X4_isWord x_length x_signs r_sort r_begin r_end 5) (fun v1 => if v1 = 0 then (zc1 (F_X4_isWord x_length x_signs r_sort r_begin r_end 6) (fun v4 => if v4 = 0 then (zc1 (F_X4_isWord x_length x_signs r_sort r_begin r_end 7) (fun v7 => if v7 = 0 then (zc1 (F_X4_isWord x_length x_signs r_sort r_begin r_end 8) (fun v10 => if v10 = 0 then (some (-1 : Int32)) else (some (3 : Int32)))) else (some (2 : Int32)))) else (some (1 : Int32)))) else (some (0 : Int32)))
abbrev rm_X4_kindOfWord : Room := { frames := 7, cells := 0, slots := 0, locals := 182 }
theorem kd_X4_kindOfWord : yX4_kindOfWord.cls = RX4 ∧ yX4_kindOfWord.cls ≠ "java/lang/invoke/MethodHandle" ∧ yX4_kindOfWord.cls ≠ "java/lang/invoke/VarHandle" ∧ (parseMethodDescriptor yX4_kindOfWord.desc).map (fun d => d.parameters.length) = some 0 := by decide +kernel
set_option maxRecDepth 100000 in
set_option maxHeartbeats 4000000 in
theorem A_X4_kindOfWord (l : Launch) (D : va_G) (cB cI cJ cZ : ClassId) (ad : (Nat → Nat) × (Nat → Nat)) (a_x a_x_signs a_r a_g : Nat) (x_length : Int32) (x_signs : Nat → Int32) (r_sort : Int32) (r_begin : Int32) (r_end : Int32) (r_lines : Int32) (r : Int32) (hF : F_X4_kindOfWord x_length x_signs r_sort r_begin r_end = some r) : kM l yX4_kindOfWord (Cond.code yX4_kindOfWord cX4_kindOfWord 1 (some .int) :: W0) rm_X4_kindOfWord D (kT cB cI cJ cZ) ad [.ref a_r] [(a_x, .inr (6, [.ref a_x_signs, .int x_length])), (a_x_signs, .inl (cB, 200, .inl x_signs)), (a_r, .inr (4, [.ref a_x, .ref a_g, .int r_sort, .int r_begin, .int r_end, .int r_lines]))] (some (.int r)) [(a_x, .inr (6, [.ref a_x_signs, .int x_length])), (a_x_signs, .inl (cB, 200, .inl x_signs)), (a_r, .inr (4, [.ref a_x, .ref a_g, .int r_sort, .int r_begin, .int r_end, .int r_lines]))] := by
  unfold F_X4_kindOfWord at hF
  refine kStart (lv := [(0, .ref a_r)]) (own := "DikeWatch$Reader") (plainFor_of_name (by decide)) rfl (Nat.le_of_ble_eq_true rfl) rfl ?_
  intro p e s m args below meth c A Q ls hQ C hx hb hw hl
  refine lv_aload_n hx hb (dq dt_X4_kindOfWord 0 rfl) rfl (lv_at hl 0 rfl) ?_
  refine kLdcS C 5 (by decide) rfl rfl (dq dt_X4_kindOfWord 1 rfl) ?_
  obtain ⟨v1, hr2, hF⟩ := zc1_ hF
  refine kCallVR C hw (A_X4_isWord l D cB cI cJ cZ ad a_x a_x_signs a_r a_g x_length x_signs r_sort r_begin r_end r_lines 5 v1 (by decide) hr2) (cwV 1 C.2.2.2.2.2.2.1 (w0_V0 q2_112 q2_109 q2_111 (ws0 2 rfl) q1_6) rfl rfl rfl kd_X4_isWord ⟨Nat.le_of_ble_eq_true rfl, Nat.le_of_ble_eq_true rfl⟩) [0, 1, 2] rfl rfl 2 4 rfl rfl hl.1 rfl rfl rfl (Nat.le_of_ble_eq_true rfl) ⟨Nat.le_of_ble_eq_true rfl, Nat.le_of_ble_eq_true rfl⟩ (dq dt_X4_kindOfWord 2 rfl) (fun H locs hw => ?_)
  refine lv_if_eq (tgt := 11) hx hb (dq dt_X4_kindOfWord 3 rfl) (by decide) (fun c3 => ?_) (fun c3 => ?_)
  · replace hF := if_t c3 hF
    refine lv_aload_n hx hb (dq dt_X4_kindOfWord 6 rfl) rfl (lv_at hl 0 rfl) ?_
    refine kLdcS C 6 (by decide) rfl rfl (dq dt_X4_kindOfWord 7 rfl) ?_
    obtain ⟨v4, hr5, hF⟩ := zc1_ hF
    refine kCallVR C hw (A_X4_isWord l D cB cI cJ cZ ad a_x a_x_signs a_r a_g x_length x_signs r_sort r_begin r_end r_lines 6 v4 (by decide) hr5) (cwV 1 C.2.2.2.2.2.2.1 (w0_V0 q2_112 q2_109 q2_111 (ws0 2 rfl) q1_6) rfl rfl rfl kd_X4_isWord ⟨Nat.le_of_ble_eq_true rfl, Nat.le_of_ble_eq_true rfl⟩) [0, 1, 2] rfl rfl 2 4 rfl rfl hl.1 rfl rfl rfl (Nat.le_of_ble_eq_true rfl) ⟨Nat.le_of_ble_eq_true rfl, Nat.le_of_ble_eq_true rfl⟩ (dq dt_X4_kindOfWord 8 rfl) (fun H locs hw => ?_)
    refine lv_if_eq (tgt := 22) hx hb (dq dt_X4_kindOfWord 9 rfl) (by decide) (fun c6 => ?_) (fun c6 => ?_)
    · replace hF := if_t c6 hF
      refine lv_aload_n hx hb (dq dt_X4_kindOfWord 12 rfl) rfl (lv_at hl 0 rfl) ?_
      refine kLdcS C 7 (by decide) rfl rfl (dq dt_X4_kindOfWord 13 rfl) ?_
      obtain ⟨v7, hr8, hF⟩ := zc1_ hF
      refine kCallVR C hw (A_X4_isWord l D cB cI cJ cZ ad a_x a_x_signs a_r a_g x_length x_signs r_sort r_begin r_end r_lines 7 v7 (by decide) hr8) (cwV 1 C.2.2.2.2.2.2.1 (w0_V0 q2_112 q2_109 q2_111 (ws0 2 rfl) q1_6) rfl rfl rfl kd_X4_isWord ⟨Nat.le_of_ble_eq_true rfl, Nat.le_of_ble_eq_true rfl⟩) [0, 1, 2] rfl rfl 2 4 rfl rfl hl.1 rfl rfl rfl (Nat.le_of_ble_eq_true rfl) ⟨Nat.le_of_ble_eq_true rfl, Nat.le_of_ble_eq_true rfl⟩ (dq dt_X4_kindOfWord 14 rfl) (fun H locs hw => ?_)
      refine lv_if_eq (tgt := 33) hx hb (dq dt_X4_kindOfWord 15 rfl) (by decide) (fun c9 => ?_) (fun c9 => ?_)
      · replace hF := if_t c9 hF
        refine lv_aload_n hx hb (dq dt_X4_kindOfWord 18 rfl) rfl (lv_at hl 0 rfl) ?_
        refine kLdcS C 8 (by decide) rfl rfl (dq dt_X4_kindOfWord 19 rfl) ?_
        obtain ⟨v10, hr11, hF⟩ := zc1_ hF
        refine kCallVR C hw (A_X4_isWord l D cB cI cJ cZ ad a_x a_x_signs a_r a_g x_length x_signs r_sort r_begin r_end r_lines 8 v10 (by decide) hr11) (cwV 1 C.2.2.2.2.2.2.1 (w0_V0 q2_112 q2_109 q2_111 (ws0 2 rfl) q1_6) rfl rfl rfl kd_X4_isWord ⟨Nat.le_of_ble_eq_true rfl, Nat.le_of_ble_eq_true rfl⟩) [0, 1, 2] rfl rfl 2 4 rfl rfl hl.1 rfl rfl rfl (Nat.le_of_ble_eq_true rfl) ⟨Nat.le_of_ble_eq_true rfl, Nat.le_of_ble_eq_true rfl⟩ (dq dt_X4_kindOfWord 20 rfl) (fun H locs hw => ?_)
        refine lv_if_eq (tgt := 46) hx hb (dq dt_X4_kindOfWord 21 rfl) (by decide) (fun c12 => ?_) (fun c12 => ?_)
        · replace hF := if_t c12 hF
          refine lv_iconst (v := (-1 : Int32)) hx hb (dq dt_X4_kindOfWord 24 rfl) (by decide) ?_
          cases hF
          exact kRetI hQ C hw (dq dt_X4_kindOfWord 25 rfl)
        · replace hF := if_f c12 hF
          refine lv_iconst (v := (3 : Int32)) hx hb (dq dt_X4_kindOfWord 22 rfl) (by decide) ?_
          refine lv_goto (tgt := 47) hx hb (dq dt_X4_kindOfWord 23 rfl) (by decide) ?_
          cases hF
          exact kRetI hQ C hw (dq dt_X4_kindOfWord 25 rfl)
      · replace hF := if_f c9 hF
        refine lv_iconst (v := (2 : Int32)) hx hb (dq dt_X4_kindOfWord 16 rfl) (by decide) ?_
        cases hF
        exact kRetI hQ C hw (dq dt_X4_kindOfWord 17 rfl)
    · replace hF := if_f c6 hF
      refine lv_iconst (v := (1 : Int32)) hx hb (dq dt_X4_kindOfWord 10 rfl) (by decide) ?_
      cases hF
      exact kRetI hQ C hw (dq dt_X4_kindOfWord 11 rfl)
  · replace hF := if_f c3 hF
    refine lv_iconst (v := (0 : Int32)) hx hb (dq dt_X4_kindOfWord 4 rfl) (by decide) ?_
    cases hF
    exact kRetI hQ C hw (dq dt_X4_kindOfWord 5 rfl)
def F_X4_readLine (x_length : Int32) (x_signs : Nat → Int32) (g_yards : Int32) (g_seeps : Int32) (g_children : Int32) (g_tides : Nat → Int32) (g_seepYard : Nat → Int32) (g_seepSize : Nat → Int32) (g_growth : Nat → Int32) (g_level : Nat → Int32) (g_kind : Nat → Int32) (g_childYard : Nat → Int32) (g_pace : Nat → Int32) (g_ear : Nat → Int32) (r_sort : Int32) (r_begin : Int32) (r_end : Int32) : Option (Int32 × Int32 × Int32 × Int32 × (Nat → Int32) × (Nat → Int32) × (Nat → Int32) × (Nat → Int32) × (Nat → Int32) × (Nat → Int32) × (Nat → Int32) × (Nat → Int32) × (Nat → Int32) × Int32 × Int32 × Int32) :=
  zc3 (F_X4_toNextToken x_length x_signs r_sort r_begin r_end) (fun g1 g2 g3 => zc1 (F_X4_isWord x_length x_signs g1 g2 g3 0) (fun v5 => if v5 = 0 then (zc1 (F_X4_isWord x_length x_signs g1 g2 g3 1) (fun v8 => if v8 = 0 then (zc1 (F_X4_isWord x_length x_signs g1 g2 g3 2) (fun v11 => if v11 = 0 then (zc1 (F_X4_isWord x_length x_signs g1 g2 g3 3) (fun v14 => if v14 = 0 then (zc1 (F_X4_isWord x_length x_signs g1 g2 g3 4) (fun v17 => if v17 = 0 then (zc1 (F_X4_kindOfWord x_length x_signs g1 g2 g3) (fun v20 => if v20 = (-1 : Int32) then (some ((0 : Int32), g_yards, g_seeps, g_children, g_tides, g_seepYard, g_seepSize, g_growth, g_level, g_kind, g_childYard, g_pace, g_ear, g1, g2, g3)) else (zc9 (F_X4_readChild x_length x_signs g_yards g_children g_kind g_childYard g_pace g_ear g1 g2 g3 v20) (fun v23 g24 g25 g26 g27 g28 g29 g30 g31 => if v23 = 0 then (some ((0 : Int32), g_yards, g_seeps, g24, g_tides, g_seepYard, g_seepSize, g_growth, g_level, g25, g26, g27, g28, g29, g30, g31)) else (some ((1 : Int32), g_yards, g_seeps, g24, g_tides, g_seepYard, g_seepSize, g_growth, g_level, g25, g26, g27, g28, g29, g30, g31)))))) else (some ((1 : Int32), g_yards, g_seeps, (0 : Int32), g_tides, g_seepYard, g_seepSize, g_growth, g_level, g_kind, g_childYard, g_pace, g_ear, g1, g2, g3)))) else (some ((1 : Int32), g_yards, (0 : Int32), g_children, g_tides, g_seepYard, g_seepSize, g_growth, g_level, g_kind, g_childYard, g_pace, g_ear, g1, g2, g3)))) else (zc9 (F_X4_readSeep x_length x_signs g_yards g_seeps g_seepYard g_seepSize g_growth g_level g1 g2 g3) (fun v34 g35 g36 g37 g38 g39 g40 g41 g42 => ckZ v34 (some (v34, g_yards, g35, g_children, g_tides, g36, g37, g38, g39, g_kind, g_childYard, g_pace, g_ear, g40, g41, g42)))))) else (zc5 (F_X4_readTide x_length x_signs g_tides g1 g2 g3) (fun v44 g45 g46 g47 g48 => ckZ v44 (some (v44, g_yards, g_seeps, g_children, g45, g_seepYard, g_seepSize, g_growth, g_level, g_kind, g_childYard, g_pace, g_ear, g46, g47, g48)))))) else (zc8 (F_X4_readDike x_length x_signs g_yards g_seeps g_children g_tides g1 g2 g3) (fun v50 g51 g52 g53 g54 g55 g56 g57 => ckZ v50 (some (v50, g51, g52, g53, g54, g_seepYard, g_seepSize, g_growth, g_level, g_kind, g_childYard, g_pace, g_ear, g55, g56, g57))))))
abbrev rm_X4_readLine : Room := { frames := 8, cells := 0, slots := 0, locals := 202 }
theorem kd_X4_readLine : yX4_readLine.cls = RX4 ∧ yX4_readLine.cls ≠ "java/lang/invoke/MethodHandle" ∧ yX4_readLine.cls ≠ "java/lang/invoke/VarHandle" ∧ (parseMethodDescriptor yX4_readLine.desc).map (fun d => d.parameters.length) = some 0 := by decide +kernel
set_option maxRecDepth 100000 in
set_option maxHeartbeats 4000000 in
theorem A_X4_readLine (l : Launch) (D : va_G) (cB cI cJ cZ : ClassId) (ad : (Nat → Nat) × (Nat → Nat)) (a_x a_x_signs a_g a_g_tides a_g_seepYard a_g_seepSize a_g_growth a_g_level a_g_kind a_g_childYard a_g_pace a_g_ear a_r : Nat) (x_length : Int32) (x_signs : Nat → Int32) (g_yards : Int32) (g_seeps : Int32) (g_children : Int32) (g_tides : Nat → Int32) (g_seepYard : Nat → Int32) (g_seepSize : Nat → Int32) (g_growth : Nat → Int32) (g_level : Nat → Int32) (g_kind : Nat → Int32) (g_childYard : Nat → Int32) (g_pace : Nat → Int32) (g_ear : Nat → Int32) (r_sort : Int32) (r_begin : Int32) (r_end : Int32) (r_lines : Int32) (r : Int32) (g_yards' : Int32) (g_seeps' : Int32) (g_children' : Int32) (g_tides' : Nat → Int32) (g_seepYard' : Nat → Int32) (g_seepSize' : Nat → Int32) (g_growth' : Nat → Int32) (g_level' : Nat → Int32) (g_kind' : Nat → Int32) (g_childYard' : Nat → Int32) (g_pace' : Nat → Int32) (g_ear' : Nat → Int32) (r_sort' : Int32) (r_begin' : Int32) (r_end' : Int32) (hF : F_X4_readLine x_length x_signs g_yards g_seeps g_children g_tides g_seepYard g_seepSize g_growth g_level g_kind g_childYard g_pace g_ear r_sort r_begin r_end = some (r, g_yards', g_seeps', g_children', g_tides', g_seepYard', g_seepSize', g_growth', g_level', g_kind', g_childYard', g_pace', g_ear', r_sort', r_begin', r_end')) : kM l yX4_readLine (Cond.code yX4_readLine cX4_readLine 2 (some .boolean) :: W0) rm_X4_readLine D (kT cB cI cJ cZ) ad [.ref a_r] [(a_x, .inr (6, [.ref a_x_signs, .int x_length])), (a_x_signs, .inl (cB, 200, .inl x_signs)), (a_g, .inr (7, [.int g_yards, .ref a_g_tides, .int g_seeps, .ref a_g_seepYard, .ref a_g_seepSize, .ref a_g_growth, .ref a_g_level, .int g_children, .ref a_g_kind, .ref a_g_childYard, .ref a_g_pace, .ref a_g_ear])), (a_g_tides, .inl (cI, 12, .inl g_tides)), (a_g_seepYard, .inl (cI, 6, .inl g_seepYard)), (a_g_seepSize, .inl (cI, 6, .inl g_seepSize)), (a_g_growth, .inl (cI, 6, .inl g_growth)), (a_g_level, .inl (cI, 6, .inl g_level)), (a_g_kind, .inl (cI, 5, .inl g_kind)), (a_g_childYard, .inl (cI, 5, .inl g_childYard)), (a_g_pace, .inl (cI, 5, .inl g_pace)), (a_g_ear, .inl (cI, 5, .inl g_ear)), (a_r, .inr (4, [.ref a_x, .ref a_g, .int r_sort, .int r_begin, .int r_end, .int r_lines]))] (some (.int r)) [(a_x, .inr (6, [.ref a_x_signs, .int x_length])), (a_x_signs, .inl (cB, 200, .inl x_signs)), (a_g, .inr (7, [.int (g_yards'), .ref a_g_tides, .int (g_seeps'), .ref a_g_seepYard, .ref a_g_seepSize, .ref a_g_growth, .ref a_g_level, .int (g_children'), .ref a_g_kind, .ref a_g_childYard, .ref a_g_pace, .ref a_g_ear])), (a_g_tides, .inl (cI, 12, .inl (g_tides'))), (a_g_seepYard, .inl (cI, 6, .inl (g_seepYard'))), (a_g_seepSize, .inl (cI, 6, .inl (g_seepSize'))), (a_g_growth, .inl (cI, 6, .inl (g_growth'))), (a_g_level, .inl (cI, 6, .inl (g_level'))), (a_g_kind, .inl (cI, 5, .inl (g_kind'))), (a_g_childYard, .inl (cI, 5, .inl (g_childYard'))), (a_g_pace, .inl (cI, 5, .inl (g_pace'))), (a_g_ear, .inl (cI, 5, .inl (g_ear'))), (a_r, .inr (4, [.ref a_x, .ref a_g, .int (r_sort'), .int (r_begin'), .int (r_end'), .int r_lines]))] := by
  unfold F_X4_readLine at hF
  refine kStart (lv := [(0, .ref a_r)]) (own := "DikeWatch$Reader") (plainFor_of_name (by decide)) rfl (Nat.le_of_ble_eq_true rfl) rfl ?_
  intro p e s m args below meth c A Q ls hQ C hx hb hw hl
  refine lv_aload_n hx hb (dq dt_X4_readLine 0 rfl) rfl (lv_at hl 0 rfl) ?_
  obtain ⟨g1, g2, g3, hr4, hF⟩ := zc3_ hF
  refine kCallV (ws2 := [(a_x, .inr (6, [.ref a_x_signs, .int x_length])), (a_x_signs, .inl (cB, 200, .inl x_signs)), (a_g, .inr (7, [.int g_yards, .ref a_g_tides, .int g_seeps, .ref a_g_seepYard, .ref a_g_seepSize, .ref a_g_growth, .ref a_g_level, .int g_children, .ref a_g_kind, .ref a_g_childYard, .ref a_g_pace, .ref a_g_ear])), (a_g_tides, .inl (cI, 12, .inl g_tides)), (a_g_seepYard, .inl (cI, 6, .inl g_seepYard)), (a_g_seepSize, .inl (cI, 6, .inl g_seepSize)), (a_g_growth, .inl (cI, 6, .inl g_growth)), (a_g_level, .inl (cI, 6, .inl g_level)), (a_g_kind, .inl (cI, 5, .inl g_kind)), (a_g_childYard, .inl (cI, 5, .inl g_childYard)), (a_g_pace, .inl (cI, 5, .inl g_pace)), (a_g_ear, .inl (cI, 5, .inl g_ear)), (a_r, .inr (4, [.ref a_x, .ref a_g, .int g1, .int g2, .int g3, .int r_lines]))]) C hw (A_X4_toNextToken l D cB cI cJ cZ ad a_x a_x_signs a_r a_g x_length x_signs r_sort r_begin r_end r_lines g1 g2 g3 hr4) (cwV 0 C.2.2.2.2.2.2.1 (w0_V0 q2_100 q2_97 q2_99 (ws0 1 rfl) q1_6) rfl rfl rfl kd_X4_toNextToken ⟨Nat.le_of_ble_eq_true rfl, Nat.le_of_ble_eq_true rfl⟩) [0, 1, 12] rfl rfl rfl rfl 12 4 rfl rfl hl.1 rfl rfl rfl (Nat.le_of_ble_eq_true rfl) ⟨Nat.le_of_ble_eq_true rfl, Nat.le_of_ble_eq_true rfl⟩ (dq dt_X4_readLine 1 rfl) (fun H locs hw => ?_)
  refine lv_aload_n hx hb (dq dt_X4_readLine 2 rfl) rfl (lv_at hl 0 rfl) ?_
  refine kLdcS C 0 (by decide) rfl rfl (dq dt_X4_readLine 3 rfl) ?_
  obtain ⟨v5, hr6, hF⟩ := zc1_ hF
  refine kCallVR C hw (A_X4_isWord l D cB cI cJ cZ ad a_x a_x_signs a_r a_g x_length x_signs g1 g2 g3 r_lines 0 v5 (by decide) hr6) (cwV 1 C.2.2.2.2.2.2.1 (w0_V0 q2_112 q2_109 q2_111 (ws0 2 rfl) q1_6) rfl rfl rfl kd_X4_isWord ⟨Nat.le_of_ble_eq_true rfl, Nat.le_of_ble_eq_true rfl⟩) [0, 1, 12] rfl rfl 12 4 rfl rfl hl.1 rfl rfl rfl (Nat.le_of_ble_eq_true rfl) ⟨Nat.le_of_ble_eq_true rfl, Nat.le_of_ble_eq_true rfl⟩ (dq dt_X4_readLine 4 rfl) (fun H locs hw => ?_)
  refine lv_if_eq (tgt := 18) hx hb (dq dt_X4_readLine 5 rfl) (by decide) (fun c7 => ?_) (fun c7 => ?_)
  · replace hF := if_t c7 hF
    refine lv_aload_n hx hb (dq dt_X4_readLine 9 rfl) rfl (lv_at hl 0 rfl) ?_
    refine kLdcS C 1 (by decide) rfl rfl (dq dt_X4_readLine 10 rfl) ?_
    obtain ⟨v8, hr9, hF⟩ := zc1_ hF
    refine kCallVR C hw (A_X4_isWord l D cB cI cJ cZ ad a_x a_x_signs a_r a_g x_length x_signs g1 g2 g3 r_lines 1 v8 (by decide) hr9) (cwV 1 C.2.2.2.2.2.2.1 (w0_V0 q2_112 q2_109 q2_111 (ws0 2 rfl) q1_6) rfl rfl rfl kd_X4_isWord ⟨Nat.le_of_ble_eq_true rfl, Nat.le_of_ble_eq_true rfl⟩) [0, 1, 12] rfl rfl 12 4 rfl rfl hl.1 rfl rfl rfl (Nat.le_of_ble_eq_true rfl) ⟨Nat.le_of_ble_eq_true rfl, Nat.le_of_ble_eq_true rfl⟩ (dq dt_X4_readLine 11 rfl) (fun H locs hw => ?_)
    refine lv_if_eq (tgt := 32) hx hb (dq dt_X4_readLine 12 rfl) (by decide) (fun c10 => ?_) (fun c10 => ?_)
    · replace hF := if_t c10 hF
      refine lv_aload_n hx hb (dq dt_X4_readLine 16 rfl) rfl (lv_at hl 0 rfl) ?_
      refine kLdcS C 2 (by decide) rfl rfl (dq dt_X4_readLine 17 rfl) ?_
      obtain ⟨v11, hr12, hF⟩ := zc1_ hF
      refine kCallVR C hw (A_X4_isWord l D cB cI cJ cZ ad a_x a_x_signs a_r a_g x_length x_signs g1 g2 g3 r_lines 2 v11 (by decide) hr12) (cwV 1 C.2.2.2.2.2.2.1 (w0_V0 q2_112 q2_109 q2_111 (ws0 2 rfl) q1_6) rfl rfl rfl kd_X4_isWord ⟨Nat.le_of_ble_eq_true rfl, Nat.le_of_ble_eq_true rfl⟩) [0, 1, 12] rfl rfl 12 4 rfl rfl hl.1 rfl rfl rfl (Nat.le_of_ble_eq_true rfl) ⟨Nat.le_of_ble_eq_true rfl, Nat.le_of_ble_eq_true rfl⟩ (dq dt_X4_readLine 18 rfl) (fun H locs hw => ?_)
      refine lv_if_eq (tgt := 46) hx hb (dq dt_X4_readLine 19 rfl) (by decide) (fun c13 => ?_) (fun c13 => ?_)
      · replace hF := if_t c13 hF
        refine lv_aload_n hx hb (dq dt_X4_readLine 23 rfl) rfl (lv_at hl 0 rfl) ?_
        refine kLdcS C 3 (by decide) rfl rfl (dq dt_X4_readLine 24 rfl) ?_
        obtain ⟨v14, hr15, hF⟩ := zc1_ hF
        refine kCallVR C hw (A_X4_isWord l D cB cI cJ cZ ad a_x a_x_signs a_r a_g x_length x_signs g1 g2 g3 r_lines 3 v14 (by decide) hr15) (cwV 1 C.2.2.2.2.2.2.1 (w0_V0 q2_112 q2_109 q2_111 (ws0 2 rfl) q1_6) rfl rfl rfl kd_X4_isWord ⟨Nat.le_of_ble_eq_true rfl, Nat.le_of_ble_eq_true rfl⟩) [0, 1, 12] rfl rfl 12 4 rfl rfl hl.1 rfl rfl rfl (Nat.le_of_ble_eq_true rfl) ⟨Nat.le_of_ble_eq_true rfl, Nat.le_of_ble_eq_true rfl⟩ (dq dt_X4_readLine 25 rfl) (fun H locs hw => ?_)
        refine lv_if_eq (tgt := 65) hx hb (dq dt_X4_readLine 26 rfl) (by decide) (fun c16 => ?_) (fun c16 => ?_)
        · replace hF := if_t c16 hF
          refine lv_aload_n hx hb (dq dt_X4_readLine 33 rfl) rfl (lv_at hl 0 rfl) ?_
          refine kLdcS C 4 (by decide) rfl rfl (dq dt_X4_readLine 34 rfl) ?_
          obtain ⟨v17, hr18, hF⟩ := zc1_ hF
          refine kCallVR C hw (A_X4_isWord l D cB cI cJ cZ ad a_x a_x_signs a_r a_g x_length x_signs g1 g2 g3 r_lines 4 v17 (by decide) hr18) (cwV 1 C.2.2.2.2.2.2.1 (w0_V0 q2_112 q2_109 q2_111 (ws0 2 rfl) q1_6) rfl rfl rfl kd_X4_isWord ⟨Nat.le_of_ble_eq_true rfl, Nat.le_of_ble_eq_true rfl⟩) [0, 1, 12] rfl rfl 12 4 rfl rfl hl.1 rfl rfl rfl (Nat.le_of_ble_eq_true rfl) ⟨Nat.le_of_ble_eq_true rfl, Nat.le_of_ble_eq_true rfl⟩ (dq dt_X4_readLine 35 rfl) (fun H locs hw => ?_)
          refine lv_if_eq (tgt := 84) hx hb (dq dt_X4_readLine 36 rfl) (by decide) (fun c19 => ?_) (fun c19 => ?_)
          · replace hF := if_t c19 hF
            refine lv_aload_n hx hb (dq dt_X4_readLine 43 rfl) rfl (lv_at hl 0 rfl) ?_
            obtain ⟨v20, hr21, hF⟩ := zc1_ hF
            refine kCallVR C hw (A_X4_kindOfWord l D cB cI cJ cZ ad a_x a_x_signs a_r a_g x_length x_signs g1 g2 g3 r_lines v20 hr21) (cwV 0 C.2.2.2.2.2.2.1 (w0_V0 q2_201 q2_198 q2_200 (ws0 7 rfl) q1_6) rfl rfl rfl kd_X4_kindOfWord ⟨Nat.le_of_ble_eq_true rfl, Nat.le_of_ble_eq_true rfl⟩) [0, 1, 12] rfl rfl 12 4 rfl rfl hl.1 rfl rfl rfl (Nat.le_of_ble_eq_true rfl) ⟨Nat.le_of_ble_eq_true rfl, Nat.le_of_ble_eq_true rfl⟩ (dq dt_X4_readLine 44 rfl) (fun H locs hw => ?_)
            refine lv_istore_n (lv' := [(1, .int v20), (0, .ref a_r)]) hx hb (dq dt_X4_readLine 45 rfl) rfl hl (by decide) rfl (fun ls hl => ?_)
            refine lv_iload_n hx hb (dq dt_X4_readLine 46 rfl) rfl (lv_at hl 0 rfl) ?_
            refine lv_iconst (v := (-1 : Int32)) hx hb (dq dt_X4_readLine 47 rfl) (by decide) ?_
            refine lv_icmp_eq (tgt := 106) hx hb (dq dt_X4_readLine 48 rfl) (by decide) (fun c22 => ?_) (fun c22 => ?_)
            · replace hF := if_t c22 hF
              refine lv_iconst (v := (0 : Int32)) hx hb (dq dt_X4_readLine 55 rfl) (by decide) ?_
              cases hF
              exact kRetZ hQ C rfl hw (dq dt_X4_readLine 56 rfl)
            · replace hF := if_f c22 hF
              refine lv_aload_n hx hb (dq dt_X4_readLine 49 rfl) rfl (lv_at hl 1 rfl) ?_
              refine lv_iload_n hx hb (dq dt_X4_readLine 50 rfl) rfl (lv_at hl 0 rfl) ?_
              obtain ⟨v23, g24, g25, g26, g27, g28, g29, g30, g31, hr32, hF⟩ := zc9_ hF
              refine kCallV (ws2 := [(a_x, .inr (6, [.ref a_x_signs, .int x_length])), (a_x_signs, .inl (cB, 200, .inl x_signs)), (a_g, .inr (7, [.int g_yards, .ref a_g_tides, .int g_seeps, .ref a_g_seepYard, .ref a_g_seepSize, .ref a_g_growth, .ref a_g_level, .int g24, .ref a_g_kind, .ref a_g_childYard, .ref a_g_pace, .ref a_g_ear])), (a_g_tides, .inl (cI, 12, .inl g_tides)), (a_g_seepYard, .inl (cI, 6, .inl g_seepYard)), (a_g_seepSize, .inl (cI, 6, .inl g_seepSize)), (a_g_growth, .inl (cI, 6, .inl g_growth)), (a_g_level, .inl (cI, 6, .inl g_level)), (a_g_kind, .inl (cI, 5, .inl g25)), (a_g_childYard, .inl (cI, 5, .inl g26)), (a_g_pace, .inl (cI, 5, .inl g27)), (a_g_ear, .inl (cI, 5, .inl g28)), (a_r, .inr (4, [.ref a_x, .ref a_g, .int g29, .int g30, .int g31, .int r_lines]))]) C hw (A_X4_readChild l D cB cI cJ cZ ad a_x a_x_signs a_g a_g_tides a_g_seepYard a_g_seepSize a_g_growth a_g_level a_g_kind a_g_childYard a_g_pace a_g_ear a_r x_length x_signs g_yards g_seeps g_children g_kind g_childYard g_pace g_ear g1 g2 g3 r_lines v20 v23 g24 g25 g26 g27 g28 g29 g30 g31 hr32) (cwV 1 C.2.2.2.2.2.2.1 (w0_V0 q2_209 q2_206 q2_208 (ws0 8 rfl) q1_6) rfl rfl rfl kd_X4_readChild ⟨Nat.le_of_ble_eq_true rfl, Nat.le_of_ble_eq_true rfl⟩) [0, 1, 2, 8, 9, 10, 11, 12] rfl rfl rfl rfl 12 4 rfl rfl hl.1 rfl rfl rfl (Nat.le_of_ble_eq_true rfl) ⟨Nat.le_of_ble_eq_true rfl, Nat.le_of_ble_eq_true rfl⟩ (dq dt_X4_readLine 51 rfl) (fun H locs hw => ?_)
              refine lv_if_eq (tgt := 106) hx hb (dq dt_X4_readLine 52 rfl) (by decide) (fun c33 => ?_) (fun c33 => ?_)
              · replace hF := if_t c33 hF
                refine lv_iconst (v := (0 : Int32)) hx hb (dq dt_X4_readLine 55 rfl) (by decide) ?_
                cases hF
                exact kRetZ hQ C rfl hw (dq dt_X4_readLine 56 rfl)
              · replace hF := if_f c33 hF
                refine lv_iconst (v := (1 : Int32)) hx hb (dq dt_X4_readLine 53 rfl) (by decide) ?_
                refine lv_goto (tgt := 107) hx hb (dq dt_X4_readLine 54 rfl) (by decide) ?_
                cases hF
                exact kRetZ hQ C rfl hw (dq dt_X4_readLine 56 rfl)
          · replace hF := if_f c19 hF
            refine lv_aload_n hx hb (dq dt_X4_readLine 37 rfl) rfl (lv_at hl 0 rfl) ?_
            refine kGet (ci := 4) C in_X4 hw 12 rfl rfl 1 (by decide) (C.2.2.2.2.2.2.1 _ q1_177) rfl rfl (dq dt_X4_readLine 38 rfl) ?_
            refine lv_iconst (v := (0 : Int32)) hx hb (dq dt_X4_readLine 39 rfl) (by decide) ?_
            refine kPut (ci := 7) (ws' := [(a_x, .inr (6, [.ref a_x_signs, .int x_length])), (a_x_signs, .inl (cB, 200, .inl x_signs)), (a_g, .inr (7, [.int g_yards, .ref a_g_tides, .int g_seeps, .ref a_g_seepYard, .ref a_g_seepSize, .ref a_g_growth, .ref a_g_level, .int (0 : Int32), .ref a_g_kind, .ref a_g_childYard, .ref a_g_pace, .ref a_g_ear])), (a_g_tides, .inl (cI, 12, .inl g_tides)), (a_g_seepYard, .inl (cI, 6, .inl g_seepYard)), (a_g_seepSize, .inl (cI, 6, .inl g_seepSize)), (a_g_growth, .inl (cI, 6, .inl g_growth)), (a_g_level, .inl (cI, 6, .inl g_level)), (a_g_kind, .inl (cI, 5, .inl g_kind)), (a_g_childYard, .inl (cI, 5, .inl g_childYard)), (a_g_pace, .inl (cI, 5, .inl g_pace)), (a_g_ear, .inl (cI, 5, .inl g_ear)), (a_r, .inr (4, [.ref a_x, .ref a_g, .int g1, .int g2, .int g3, .int r_lines]))]) C in_X7 tyX7 tyX7_ok nmX7 hw 2 rfl rfl 7 (by decide) (C.2.2.2.2.2.2.1 _ q1_73) rfl rfl rfl rfl (Nat.le_of_ble_eq_true rfl) rfl (dq dt_X4_readLine 40 rfl) (fun H locs hw => ?_)
            refine lv_iconst (v := (1 : Int32)) hx hb (dq dt_X4_readLine 41 rfl) (by decide) ?_
            cases hF
            exact kRetZ hQ C rfl hw (dq dt_X4_readLine 42 rfl)
        · replace hF := if_f c16 hF
          refine lv_aload_n hx hb (dq dt_X4_readLine 27 rfl) rfl (lv_at hl 0 rfl) ?_
          refine kGet (ci := 4) C in_X4 hw 12 rfl rfl 1 (by decide) (C.2.2.2.2.2.2.1 _ q1_177) rfl rfl (dq dt_X4_readLine 28 rfl) ?_
          refine lv_iconst (v := (0 : Int32)) hx hb (dq dt_X4_readLine 29 rfl) (by decide) ?_
          refine kPut (ci := 7) (ws' := [(a_x, .inr (6, [.ref a_x_signs, .int x_length])), (a_x_signs, .inl (cB, 200, .inl x_signs)), (a_g, .inr (7, [.int g_yards, .ref a_g_tides, .int (0 : Int32), .ref a_g_seepYard, .ref a_g_seepSize, .ref a_g_growth, .ref a_g_level, .int g_children, .ref a_g_kind, .ref a_g_childYard, .ref a_g_pace, .ref a_g_ear])), (a_g_tides, .inl (cI, 12, .inl g_tides)), (a_g_seepYard, .inl (cI, 6, .inl g_seepYard)), (a_g_seepSize, .inl (cI, 6, .inl g_seepSize)), (a_g_growth, .inl (cI, 6, .inl g_growth)), (a_g_level, .inl (cI, 6, .inl g_level)), (a_g_kind, .inl (cI, 5, .inl g_kind)), (a_g_childYard, .inl (cI, 5, .inl g_childYard)), (a_g_pace, .inl (cI, 5, .inl g_pace)), (a_g_ear, .inl (cI, 5, .inl g_ear)), (a_r, .inr (4, [.ref a_x, .ref a_g, .int g1, .int g2, .int g3, .int r_lines]))]) C in_X7 tyX7 tyX7_ok nmX7 hw 2 rfl rfl 2 (by decide) (C.2.2.2.2.2.2.1 _ q1_57) rfl rfl rfl rfl (Nat.le_of_ble_eq_true rfl) rfl (dq dt_X4_readLine 30 rfl) (fun H locs hw => ?_)
          refine lv_iconst (v := (1 : Int32)) hx hb (dq dt_X4_readLine 31 rfl) (by decide) ?_
          cases hF
          exact kRetZ hQ C rfl hw (dq dt_X4_readLine 32 rfl)
      · replace hF := if_f c13 hF
        refine lv_aload_n hx hb (dq dt_X4_readLine 20 rfl) rfl (lv_at hl 0 rfl) ?_
        obtain ⟨v34, g35, g36, g37, g38, g39, g40, g41, g42, hr43, hF⟩ := zc9_ hF
        refine kCallV (ws2 := [(a_x, .inr (6, [.ref a_x_signs, .int x_length])), (a_x_signs, .inl (cB, 200, .inl x_signs)), (a_g, .inr (7, [.int g_yards, .ref a_g_tides, .int g35, .ref a_g_seepYard, .ref a_g_seepSize, .ref a_g_growth, .ref a_g_level, .int g_children, .ref a_g_kind, .ref a_g_childYard, .ref a_g_pace, .ref a_g_ear])), (a_g_tides, .inl (cI, 12, .inl g_tides)), (a_g_seepYard, .inl (cI, 6, .inl g36)), (a_g_seepSize, .inl (cI, 6, .inl g37)), (a_g_growth, .inl (cI, 6, .inl g38)), (a_g_level, .inl (cI, 6, .inl g39)), (a_g_kind, .inl (cI, 5, .inl g_kind)), (a_g_childYard, .inl (cI, 5, .inl g_childYard)), (a_g_pace, .inl (cI, 5, .inl g_pace)), (a_g_ear, .inl (cI, 5, .inl g_ear)), (a_r, .inr (4, [.ref a_x, .ref a_g, .int g40, .int g41, .int g42, .int r_lines]))]) C hw (A_X4_readSeep l D cB cI cJ cZ ad a_x a_x_signs a_g a_g_tides a_g_seepYard a_g_seepSize a_g_growth a_g_level a_g_kind a_g_childYard a_g_pace a_g_ear a_r x_length x_signs g_yards g_seeps g_children g_seepYard g_seepSize g_growth g_level g1 g2 g3 r_lines v34 g35 g36 g37 g38 g39 g40 g41 g42 hr43) (cwV 0 C.2.2.2.2.2.2.1 (w0_V0 q2_186 q2_183 q2_185 (ws0 6 rfl) q1_6) rfl rfl rfl kd_X4_readSeep ⟨Nat.le_of_ble_eq_true rfl, Nat.le_of_ble_eq_true rfl⟩) [0, 1, 2, 4, 5, 6, 7, 12] rfl rfl rfl rfl 12 4 rfl rfl hl.1 rfl rfl rfl (Nat.le_of_ble_eq_true rfl) ⟨Nat.le_of_ble_eq_true rfl, Nat.le_of_ble_eq_true rfl⟩ (dq dt_X4_readLine 21 rfl) (fun H locs hw => ?_)
        obtain ⟨hn, hF⟩ := ckZ_ hF
        cases hF
        exact kRetZ hQ C hn hw (dq dt_X4_readLine 22 rfl)
    · replace hF := if_f c10 hF
      refine lv_aload_n hx hb (dq dt_X4_readLine 13 rfl) rfl (lv_at hl 0 rfl) ?_
      obtain ⟨v44, g45, g46, g47, g48, hr49, hF⟩ := zc5_ hF
      refine kCallV (ws2 := [(a_x, .inr (6, [.ref a_x_signs, .int x_length])), (a_x_signs, .inl (cB, 200, .inl x_signs)), (a_g, .inr (7, [.int g_yards, .ref a_g_tides, .int g_seeps, .ref a_g_seepYard, .ref a_g_seepSize, .ref a_g_growth, .ref a_g_level, .int g_children, .ref a_g_kind, .ref a_g_childYard, .ref a_g_pace, .ref a_g_ear])), (a_g_tides, .inl (cI, 12, .inl g45)), (a_g_seepYard, .inl (cI, 6, .inl g_seepYard)), (a_g_seepSize, .inl (cI, 6, .inl g_seepSize)), (a_g_growth, .inl (cI, 6, .inl g_growth)), (a_g_level, .inl (cI, 6, .inl g_level)), (a_g_kind, .inl (cI, 5, .inl g_kind)), (a_g_childYard, .inl (cI, 5, .inl g_childYard)), (a_g_pace, .inl (cI, 5, .inl g_pace)), (a_g_ear, .inl (cI, 5, .inl g_ear)), (a_r, .inr (4, [.ref a_x, .ref a_g, .int g46, .int g47, .int g48, .int r_lines]))]) C hw (A_X4_readTide l D cB cI cJ cZ ad a_x a_x_signs a_g a_g_tides a_g_seepYard a_g_seepSize a_g_growth a_g_level a_g_kind a_g_childYard a_g_pace a_g_ear a_r x_length x_signs g_yards g_seeps g_children g_tides g1 g2 g3 r_lines v44 g45 g46 g47 g48 hr49) (cwV 0 C.2.2.2.2.2.2.1 (w0_V0 q2_181 q2_178 q2_180 (ws0 5 rfl) q1_6) rfl rfl rfl kd_X4_readTide ⟨Nat.le_of_ble_eq_true rfl, Nat.le_of_ble_eq_true rfl⟩) [0, 1, 2, 3, 12] rfl rfl rfl rfl 12 4 rfl rfl hl.1 rfl rfl rfl (Nat.le_of_ble_eq_true rfl) ⟨Nat.le_of_ble_eq_true rfl, Nat.le_of_ble_eq_true rfl⟩ (dq dt_X4_readLine 14 rfl) (fun H locs hw => ?_)
      obtain ⟨hn, hF⟩ := ckZ_ hF
      cases hF
      exact kRetZ hQ C hn hw (dq dt_X4_readLine 15 rfl)
  · replace hF := if_f c7 hF
    refine lv_aload_n hx hb (dq dt_X4_readLine 6 rfl) rfl (lv_at hl 0 rfl) ?_
    obtain ⟨v50, g51, g52, g53, g54, g55, g56, g57, hr58, hF⟩ := zc8_ hF
    refine kCallV (ws2 := [(a_x, .inr (6, [.ref a_x_signs, .int x_length])), (a_x_signs, .inl (cB, 200, .inl x_signs)), (a_g, .inr (7, [.int g51, .ref a_g_tides, .int g52, .ref a_g_seepYard, .ref a_g_seepSize, .ref a_g_growth, .ref a_g_level, .int g53, .ref a_g_kind, .ref a_g_childYard, .ref a_g_pace, .ref a_g_ear])), (a_g_tides, .inl (cI, 12, .inl g54)), (a_g_seepYard, .inl (cI, 6, .inl g_seepYard)), (a_g_seepSize, .inl (cI, 6, .inl g_seepSize)), (a_g_growth, .inl (cI, 6, .inl g_growth)), (a_g_level, .inl (cI, 6, .inl g_level)), (a_g_kind, .inl (cI, 5, .inl g_kind)), (a_g_childYard, .inl (cI, 5, .inl g_childYard)), (a_g_pace, .inl (cI, 5, .inl g_pace)), (a_g_ear, .inl (cI, 5, .inl g_ear)), (a_r, .inr (4, [.ref a_x, .ref a_g, .int g55, .int g56, .int g57, .int r_lines]))]) C hw (A_X4_readDike l D cB cI cJ cZ ad a_x a_x_signs a_g a_g_tides a_g_seepYard a_g_seepSize a_g_growth a_g_level a_g_kind a_g_childYard a_g_pace a_g_ear a_r x_length x_signs g_yards g_seeps g_children g_tides g1 g2 g3 r_lines v50 g51 g52 g53 g54 g55 g56 g57 hr58) (cwV 0 C.2.2.2.2.2.2.1 (w0_V0 q2_164 q2_161 q2_163 (ws0 3 rfl) q1_6) rfl rfl rfl kd_X4_readDike ⟨Nat.le_of_ble_eq_true rfl, Nat.le_of_ble_eq_true rfl⟩) [0, 1, 2, 3, 12] rfl rfl rfl rfl 12 4 rfl rfl hl.1 rfl rfl rfl (Nat.le_of_ble_eq_true rfl) ⟨Nat.le_of_ble_eq_true rfl, Nat.le_of_ble_eq_true rfl⟩ (dq dt_X4_readLine 7 rfl) (fun H locs hw => ?_)
    obtain ⟨hn, hF⟩ := ckZ_ hF
    cases hF
    exact kRetZ hQ C hn hw (dq dt_X4_readLine 8 rfl)
def F_X4_readToFault (x_length : Int32) (x_signs : Nat → Int32) (g_yards : Int32) (g_seeps : Int32) (g_children : Int32) (g_tides : Nat → Int32) (g_seepYard : Nat → Int32) (g_seepSize : Nat → Int32) (g_growth : Nat → Int32) (g_level : Nat → Int32) (g_kind : Nat → Int32) (g_childYard : Nat → Int32) (g_pace : Nat → Int32) (g_ear : Nat → Int32) (r_sort : Int32) (r_begin : Int32) (r_end : Int32) (r_lines : Int32) : Option (Int32 × Int32 × Int32 × Int32 × (Nat → Int32) × (Nat → Int32) × (Nat → Int32) × (Nat → Int32) × (Nat → Int32) × (Nat → Int32) × (Nat → Int32) × (Nat → Int32) × (Nat → Int32) × Int32 × Int32 × Int32 × Int32) :=
  zl17 (fun x1 h2 h3 h4 h5 h6 h7 h8 h9 h10 h11 h12 h13 h14 h15 h16 h17 ag18 => if (12 : Int32) < x1 then (some (h15, h2, h3, h4, h5, h6, h7, h8, h9, h10, h11, h12, h13, h14, h15, h16, h17)) else (zc16 (F_X4_readLine x_length x_signs h2 h3 h4 h5 h6 h7 h8 h9 h10 h11 h12 h13 h14 h15 h16) (fun v20 g21 g22 g23 g24 g25 g26 g27 g28 g29 g30 g31 g32 g33 g34 g35 => if v20 = 0 then (some (g34, g21, g22, g23, g24, g25, g26, g27, g28, g29, g30, g31, g32, g33, g34, g35, h17)) else (zc3 (F_X4_toNextToken x_length x_signs g33 g34 g35) (fun g38 g39 g40 => if g38 = 0 then (some ((-1 : Int32), g21, g22, g23, g24, g25, g26, g27, g28, g29, g30, g31, g32, g38, g39, g40, x1)) else (zc1 (F_X6_signAt x_length x_signs g39) (fun v43 => if v43 = (59 : Int32) then (bd (x1 + (1 : Int32)) (fun v46 => ag18 v46 g21 g22 g23 g24 g25 g26 g27 g28 g29 g30 g31 g32 g38 g39 g40 x1)) else (some (g39, g21, g22, g23, g24, g25, g26, g27, g28, g29, g30, g31, g32, g38, g39, g40, x1))))))))) FU (1 : Int32) g_yards g_seeps g_children g_tides g_seepYard g_seepSize g_growth g_level g_kind g_childYard g_pace g_ear r_sort r_begin (0 : Int32) r_lines
abbrev rm_X4_readToFault : Room := { frames := 9, cells := 0, slots := 0, locals := 223 }
theorem kd_X4_readToFault : yX4_readToFault.cls = RX4 ∧ yX4_readToFault.cls ≠ "java/lang/invoke/MethodHandle" ∧ yX4_readToFault.cls ≠ "java/lang/invoke/VarHandle" ∧ (parseMethodDescriptor yX4_readToFault.desc).map (fun d => d.parameters.length) = some 0 := by decide +kernel
set_option maxRecDepth 100000 in
set_option maxHeartbeats 4000000 in
theorem A_X4_readToFault (l : Launch) (D : va_G) (cB cI cJ cZ : ClassId) (ad : (Nat → Nat) × (Nat → Nat)) (a_x a_x_signs a_g a_g_tides a_g_seepYard a_g_seepSize a_g_growth a_g_level a_g_kind a_g_childYard a_g_pace a_g_ear a_r : Nat) (x_length : Int32) (x_signs : Nat → Int32) (g_yards : Int32) (g_seeps : Int32) (g_children : Int32) (g_tides : Nat → Int32) (g_seepYard : Nat → Int32) (g_seepSize : Nat → Int32) (g_growth : Nat → Int32) (g_level : Nat → Int32) (g_kind : Nat → Int32) (g_childYard : Nat → Int32) (g_pace : Nat → Int32) (g_ear : Nat → Int32) (r_sort : Int32) (r_begin : Int32) (r_end : Int32) (r_lines : Int32) (r : Int32) (g_yards' : Int32) (g_seeps' : Int32) (g_children' : Int32) (g_tides' : Nat → Int32) (g_seepYard' : Nat → Int32) (g_seepSize' : Nat → Int32) (g_growth' : Nat → Int32) (g_level' : Nat → Int32) (g_kind' : Nat → Int32) (g_childYard' : Nat → Int32) (g_pace' : Nat → Int32) (g_ear' : Nat → Int32) (r_sort' : Int32) (r_begin' : Int32) (r_end' : Int32) (r_lines' : Int32) (hF : F_X4_readToFault x_length x_signs g_yards g_seeps g_children g_tides g_seepYard g_seepSize g_growth g_level g_kind g_childYard g_pace g_ear r_sort r_begin r_end r_lines = some (r, g_yards', g_seeps', g_children', g_tides', g_seepYard', g_seepSize', g_growth', g_level', g_kind', g_childYard', g_pace', g_ear', r_sort', r_begin', r_end', r_lines')) : kM l yX4_readToFault (Cond.code yX4_readToFault cX4_readToFault 2 (some .int) :: W0) rm_X4_readToFault D (kT cB cI cJ cZ) ad [.ref a_r] [(a_x, .inr (6, [.ref a_x_signs, .int x_length])), (a_x_signs, .inl (cB, 200, .inl x_signs)), (a_g, .inr (7, [.int g_yards, .ref a_g_tides, .int g_seeps, .ref a_g_seepYard, .ref a_g_seepSize, .ref a_g_growth, .ref a_g_level, .int g_children, .ref a_g_kind, .ref a_g_childYard, .ref a_g_pace, .ref a_g_ear])), (a_g_tides, .inl (cI, 12, .inl g_tides)), (a_g_seepYard, .inl (cI, 6, .inl g_seepYard)), (a_g_seepSize, .inl (cI, 6, .inl g_seepSize)), (a_g_growth, .inl (cI, 6, .inl g_growth)), (a_g_level, .inl (cI, 6, .inl g_level)), (a_g_kind, .inl (cI, 5, .inl g_kind)), (a_g_childYard, .inl (cI, 5, .inl g_childYard)), (a_g_pace, .inl (cI, 5, .inl g_pace)), (a_g_ear, .inl (cI, 5, .inl g_ear)), (a_r, .inr (4, [.ref a_x, .ref a_g, .int r_sort, .int r_begin, .int r_end, .int r_lines]))] (some (.int r)) [(a_x, .inr (6, [.ref a_x_signs, .int x_length])), (a_x_signs, .inl (cB, 200, .inl x_signs)), (a_g, .inr (7, [.int (g_yards'), .ref a_g_tides, .int (g_seeps'), .ref a_g_seepYard, .ref a_g_seepSize, .ref a_g_growth, .ref a_g_level, .int (g_children'), .ref a_g_kind, .ref a_g_childYard, .ref a_g_pace, .ref a_g_ear])), (a_g_tides, .inl (cI, 12, .inl (g_tides'))), (a_g_seepYard, .inl (cI, 6, .inl (g_seepYard'))), (a_g_seepSize, .inl (cI, 6, .inl (g_seepSize'))), (a_g_growth, .inl (cI, 6, .inl (g_growth'))), (a_g_level, .inl (cI, 6, .inl (g_level'))), (a_g_kind, .inl (cI, 5, .inl (g_kind'))), (a_g_childYard, .inl (cI, 5, .inl (g_childYard'))), (a_g_pace, .inl (cI, 5, .inl (g_pace'))), (a_g_ear, .inl (cI, 5, .inl (g_ear'))), (a_r, .inr (4, [.ref a_x, .ref a_g, .int (r_sort'), .int (r_begin'), .int (r_end'), .int (r_lines')]))] := by
  unfold F_X4_readToFault at hF
  refine kStart (lv := [(0, .ref a_r)]) (own := "DikeWatch$Reader") (plainFor_of_name (by decide)) rfl (Nat.le_of_ble_eq_true rfl) rfl ?_
  intro p e s m args below meth c A Q ls hQ C hx hb hw hl
  refine lv_aload_n hx hb (dq dt_X4_readToFault 0 rfl) rfl (lv_at hl 0 rfl) ?_
  refine lv_iconst (v := (0 : Int32)) hx hb (dq dt_X4_readToFault 1 rfl) (by decide) ?_
  refine kPut (ci := 4) (ws' := [(a_x, .inr (6, [.ref a_x_signs, .int x_length])), (a_x_signs, .inl (cB, 200, .inl x_signs)), (a_g, .inr (7, [.int g_yards, .ref a_g_tides, .int g_seeps, .ref a_g_seepYard, .ref a_g_seepSize, .ref a_g_growth, .ref a_g_level, .int g_children, .ref a_g_kind, .ref a_g_childYard, .ref a_g_pace, .ref a_g_ear])), (a_g_tides, .inl (cI, 12, .inl g_tides)), (a_g_seepYard, .inl (cI, 6, .inl g_seepYard)), (a_g_seepSize, .inl (cI, 6, .inl g_seepSize)), (a_g_growth, .inl (cI, 6, .inl g_growth)), (a_g_level, .inl (cI, 6, .inl g_level)), (a_g_kind, .inl (cI, 5, .inl g_kind)), (a_g_childYard, .inl (cI, 5, .inl g_childYard)), (a_g_pace, .inl (cI, 5, .inl g_pace)), (a_g_ear, .inl (cI, 5, .inl g_ear)), (a_r, .inr (4, [.ref a_x, .ref a_g, .int r_sort, .int r_begin, .int (0 : Int32), .int r_lines]))]) C in_X4 tyX4 tyX4_ok nmX4 hw 12 rfl rfl 4 (by decide) (C.2.2.2.2.2.2.1 _ q1_180) rfl rfl rfl rfl (Nat.le_of_ble_eq_true rfl) rfl (dq dt_X4_readToFault 2 rfl) (fun H locs hw => ?_)
  refine lv_iconst (v := (1 : Int32)) hx hb (dq dt_X4_readToFault 3 rfl) (by decide) ?_
  refine lv_istore_n (lv' := [(1, .int (1 : Int32)), (0, .ref a_r)]) hx hb (dq dt_X4_readToFault 4 rfl) rfl hl (by decide) rfl (fun ls hl => ?_)
  obtain ⟨K18, hK018, hK18, hF⟩ := zl17_ hF
  have L18 : ∀ (n : Nat) (x1 : Int32) (h2 : Int32) (h3 : Int32) (h4 : Int32) (h5 : Nat → Int32) (h6 : Nat → Int32) (h7 : Nat → Int32) (h8 : Nat → Int32) (h9 : Nat → Int32) (h10 : Nat → Int32) (h11 : Nat → Int32) (h12 : Nat → Int32) (h13 : Nat → Int32) (h14 : Int32) (h15 : Int32) (h16 : Int32) (h17 : Int32), K18 n x1 h2 h3 h4 h5 h6 h7 h8 h9 h10 h11 h12 h13 h14 h15 h16 h17 = some (r, g_yards', g_seeps', g_children', g_tides', g_seepYard', g_seepSize', g_growth', g_level', g_kind', g_childYard', g_pace', g_ear', r_sort', r_begin', r_end', r_lines') → ∀ (H : Heap) (locs : List Loc) (ls : Array Slot), kW D A s.heap [(a_x, .inr (6, [.ref a_x_signs, .int x_length])), (a_x_signs, .inl (cB, 200, .inl x_signs)), (a_g, .inr (7, [.int h2, .ref a_g_tides, .int h3, .ref a_g_seepYard, .ref a_g_seepSize, .ref a_g_growth, .ref a_g_level, .int h4, .ref a_g_kind, .ref a_g_childYard, .ref a_g_pace, .ref a_g_ear])), (a_g_tides, .inl (cI, 12, .inl h5)), (a_g_seepYard, .inl (cI, 6, .inl h6)), (a_g_seepSize, .inl (cI, 6, .inl h7)), (a_g_growth, .inl (cI, 6, .inl h8)), (a_g_level, .inl (cI, 6, .inl h9)), (a_g_kind, .inl (cI, 5, .inl h10)), (a_g_childYard, .inl (cI, 5, .inl h11)), (a_g_pace, .inl (cI, 5, .inl h12)), (a_g_ear, .inl (cI, 5, .inl h13)), (a_r, .inr (4, [.ref a_x, .ref a_g, .int h14, .int h15, .int h16, .int h17]))] H locs → lv_has ls 2 [(0, .ref a_r), (1, .int x1)] → W p l e rm_X4_readToFault s m args below meth c H locs 0 0 Q (F0 m 7 ls []) := by
    intro n
    induction n with
    | zero => intro x1 h2 h3 h4 h5 h6 h7 h8 h9 h10 h11 h12 h13 h14 h15 h16 h17 hF; exact (lp_no (hK018 x1 h2 h3 h4 h5 h6 h7 h8 h9 h10 h11 h12 h13 h14 h15 h16 h17) hF).elim
    | succ n ih18 =>
      intro x1 h2 h3 h4 h5 h6 h7 h8 h9 h10 h11 h12 h13 h14 h15 h16 h17 hF H locs ls hw hl
      replace hF := hK18 n x1 h2 h3 h4 h5 h6 h7 h8 h9 h10 h11 h12 h13 h14 h15 h16 h17 hF
      refine lv_iload_n hx hb (dq dt_X4_readToFault 5 rfl) rfl (lv_at hl 1 rfl) ?_
      refine lv_bipush (v := (12 : Int32)) hx hb (dq dt_X4_readToFault 6 rfl) (by decide) ?_
      refine lv_icmp_gt (tgt := 70) hx hb (dq dt_X4_readToFault 7 rfl) (by decide) (fun c19 => ?_) (fun c19 => ?_)
      · replace hF := if_t c19 hF
        refine lv_aload_n hx hb (dq dt_X4_readToFault 36 rfl) rfl (lv_at hl 0 rfl) ?_
        refine kGet (ci := 4) C in_X4 hw 12 rfl rfl 3 (by decide) (C.2.2.2.2.2.2.1 _ q1_179) rfl rfl (dq dt_X4_readToFault 37 rfl) ?_
        cases hF
        exact kRetI hQ C hw (dq dt_X4_readToFault 38 rfl)
      · replace hF := if_f c19 hF
        refine lv_aload_n hx hb (dq dt_X4_readToFault 8 rfl) rfl (lv_at hl 0 rfl) ?_
        obtain ⟨v20, g21, g22, g23, g24, g25, g26, g27, g28, g29, g30, g31, g32, g33, g34, g35, hr36, hF⟩ := zc16_ hF
        refine kCallV (ws2 := [(a_x, .inr (6, [.ref a_x_signs, .int x_length])), (a_x_signs, .inl (cB, 200, .inl x_signs)), (a_g, .inr (7, [.int g21, .ref a_g_tides, .int g22, .ref a_g_seepYard, .ref a_g_seepSize, .ref a_g_growth, .ref a_g_level, .int g23, .ref a_g_kind, .ref a_g_childYard, .ref a_g_pace, .ref a_g_ear])), (a_g_tides, .inl (cI, 12, .inl g24)), (a_g_seepYard, .inl (cI, 6, .inl g25)), (a_g_seepSize, .inl (cI, 6, .inl g26)), (a_g_growth, .inl (cI, 6, .inl g27)), (a_g_level, .inl (cI, 6, .inl g28)), (a_g_kind, .inl (cI, 5, .inl g29)), (a_g_childYard, .inl (cI, 5, .inl g30)), (a_g_pace, .inl (cI, 5, .inl g31)), (a_g_ear, .inl (cI, 5, .inl g32)), (a_r, .inr (4, [.ref a_x, .ref a_g, .int g33, .int g34, .int g35, .int h17]))]) C hw (A_X4_readLine l D cB cI cJ cZ ad a_x a_x_signs a_g a_g_tides a_g_seepYard a_g_seepSize a_g_growth a_g_level a_g_kind a_g_childYard a_g_pace a_g_ear a_r x_length x_signs h2 h3 h4 h5 h6 h7 h8 h9 h10 h11 h12 h13 h14 h15 h16 h17 v20 g21 g22 g23 g24 g25 g26 g27 g28 g29 g30 g31 g32 g33 g34 g35 hr36) (cwV 0 C.2.2.2.2.2.2.1 (w0_V0 q2_96 q2_93 q2_95 (ws0 0 rfl) q1_6) rfl rfl rfl kd_X4_readLine ⟨Nat.le_of_ble_eq_true rfl, Nat.le_of_ble_eq_true rfl⟩) [0, 1, 2, 3, 4, 5, 6, 7, 8, 9, 10, 11, 12] rfl rfl rfl rfl 12 4 rfl rfl hl.1 rfl rfl rfl (Nat.le_of_ble_eq_true rfl) ⟨Nat.le_of_ble_eq_true rfl, Nat.le_of_ble_eq_true rfl⟩ (dq dt_X4_readToFault 9 rfl) (fun H locs hw => ?_)
        refine lv_if_ne (tgt := 25) hx hb (dq dt_X4_readToFault 10 rfl) (by decide) (fun c37 => ?_) (fun c37 => ?_)
        · replace hF := if_f c37 hF
          refine lv_aload_n hx hb (dq dt_X4_readToFault 14 rfl) rfl (lv_at hl 0 rfl) ?_
          refine lv_iload_n hx hb (dq dt_X4_readToFault 15 rfl) rfl (lv_at hl 1 rfl) ?_
          refine kPut (ci := 4) (ws' := [(a_x, .inr (6, [.ref a_x_signs, .int x_length])), (a_x_signs, .inl (cB, 200, .inl x_signs)), (a_g, .inr (7, [.int g21, .ref a_g_tides, .int g22, .ref a_g_seepYard, .ref a_g_seepSize, .ref a_g_growth, .ref a_g_level, .int g23, .ref a_g_kind, .ref a_g_childYard, .ref a_g_pace, .ref a_g_ear])), (a_g_tides, .inl (cI, 12, .inl g24)), (a_g_seepYard, .inl (cI, 6, .inl g25)), (a_g_seepSize, .inl (cI, 6, .inl g26)), (a_g_growth, .inl (cI, 6, .inl g27)), (a_g_level, .inl (cI, 6, .inl g28)), (a_g_kind, .inl (cI, 5, .inl g29)), (a_g_childYard, .inl (cI, 5, .inl g30)), (a_g_pace, .inl (cI, 5, .inl g31)), (a_g_ear, .inl (cI, 5, .inl g32)), (a_r, .inr (4, [.ref a_x, .ref a_g, .int g33, .int g34, .int g35, .int x1]))]) C in_X4 tyX4 tyX4_ok nmX4 hw 12 rfl rfl 5 (by decide) (C.2.2.2.2.2.2.1 _ q1_181) rfl rfl rfl rfl (Nat.le_of_ble_eq_true rfl) rfl (dq dt_X4_readToFault 16 rfl) (fun H locs hw => ?_)
          refine lv_aload_n hx hb (dq dt_X4_readToFault 17 rfl) rfl (lv_at hl 0 rfl) ?_
          obtain ⟨g38, g39, g40, hr41, hF⟩ := zc3_ hF
          refine kCallV (ws2 := [(a_x, .inr (6, [.ref a_x_signs, .int x_length])), (a_x_signs, .inl (cB, 200, .inl x_signs)), (a_g, .inr (7, [.int g21, .ref a_g_tides, .int g22, .ref a_g_seepYard, .ref a_g_seepSize, .ref a_g_growth, .ref a_g_level, .int g23, .ref a_g_kind, .ref a_g_childYard, .ref a_g_pace, .ref a_g_ear])), (a_g_tides, .inl (cI, 12, .inl g24)), (a_g_seepYard, .inl (cI, 6, .inl g25)), (a_g_seepSize, .inl (cI, 6, .inl g26)), (a_g_growth, .inl (cI, 6, .inl g27)), (a_g_level, .inl (cI, 6, .inl g28)), (a_g_kind, .inl (cI, 5, .inl g29)), (a_g_childYard, .inl (cI, 5, .inl g30)), (a_g_pace, .inl (cI, 5, .inl g31)), (a_g_ear, .inl (cI, 5, .inl g32)), (a_r, .inr (4, [.ref a_x, .ref a_g, .int g38, .int g39, .int g40, .int x1]))]) C hw (A_X4_toNextToken l D cB cI cJ cZ ad a_x a_x_signs a_r a_g x_length x_signs g33 g34 g35 x1 g38 g39 g40 hr41) (cwV 0 C.2.2.2.2.2.2.1 (w0_V0 q2_100 q2_97 q2_99 (ws0 1 rfl) q1_6) rfl rfl rfl kd_X4_toNextToken ⟨Nat.le_of_ble_eq_true rfl, Nat.le_of_ble_eq_true rfl⟩) [0, 1, 12] rfl rfl rfl rfl 12 4 rfl rfl hl.1 rfl rfl rfl (Nat.le_of_ble_eq_true rfl) ⟨Nat.le_of_ble_eq_true rfl, Nat.le_of_ble_eq_true rfl⟩ (dq dt_X4_readToFault 18 rfl) (fun H locs hw => ?_)
          refine lv_aload_n hx hb (dq dt_X4_readToFault 19 rfl) rfl (lv_at hl 0 rfl) ?_
          refine kGet (ci := 4) C in_X4 hw 12 rfl rfl 2 (by decide) (C.2.2.2.2.2.2.1 _ q1_178) rfl rfl (dq dt_X4_readToFault 20 rfl) ?_
          refine lv_if_ne (tgt := 43) hx hb (dq dt_X4_readToFault 21 rfl) (by decide) (fun c42 => ?_) (fun c42 => ?_)
          · replace hF := if_f c42 hF
            refine lv_aload_n hx hb (dq dt_X4_readToFault 24 rfl) rfl (lv_at hl 0 rfl) ?_
            refine kGet (ci := 4) C in_X4 hw 12 rfl rfl 0 (by decide) (C.2.2.2.2.2.2.1 _ q1_176) rfl rfl (dq dt_X4_readToFault 25 rfl) ?_
            refine lv_aload_n hx hb (dq dt_X4_readToFault 26 rfl) rfl (lv_at hl 0 rfl) ?_
            refine kGet (ci := 4) C in_X4 hw 12 rfl rfl 3 (by decide) (C.2.2.2.2.2.2.1 _ q1_179) rfl rfl (dq dt_X4_readToFault 27 rfl) ?_
            obtain ⟨v43, hr44, hF⟩ := zc1_ hF
            refine kCallVR C hw (A_X6_signAt l D cB cI cJ cZ ad a_x a_x_signs x_length x_signs g39 v43 hr44) (cwV 1 C.2.2.2.2.2.2.1 (w0_V0 q2_104 q2_101 q2_102 q2_103 q1_2) rfl rfl rfl kd_X6_signAt ⟨Nat.le_of_ble_eq_true rfl, Nat.le_of_ble_eq_true rfl⟩) [0, 1] rfl rfl 0 6 rfl rfl hl.1 rfl rfl rfl (Nat.le_of_ble_eq_true rfl) ⟨Nat.le_of_ble_eq_true rfl, Nat.le_of_ble_eq_true rfl⟩ (dq dt_X4_readToFault 28 rfl) (fun H locs hw => ?_)
            refine lv_bipush (v := (59 : Int32)) hx hb (dq dt_X4_readToFault 29 rfl) (by decide) ?_
            refine lv_icmp_eq (tgt := 64) hx hb (dq dt_X4_readToFault 30 rfl) (by decide) (fun c45 => ?_) (fun c45 => ?_)
            · replace hF := if_t c45 hF
              obtain ⟨v46, ev46, hF⟩ := bd_ hF
              refine lv_iinc (v := v46) (lv' := [(1, .int v46), (0, .ref a_r)]) hx hb (dq dt_X4_readToFault 34 rfl) hl (k := 1) rfl ev46.symm (by decide) rfl (fun ls hl => ?_)
              refine lv_goto (tgt := 7) hx hb (dq dt_X4_readToFault 35 rfl) (by decide) ?_
              exact ih18 v46 g21 g22 g23 g24 g25 g26 g27 g28 g29 g30 g31 g32 g38 g39 g40 x1 hF _ _ _ hw (lv_sub hl [1, 0] rfl)
            · replace hF := if_f c45 hF
              refine lv_aload_n hx hb (dq dt_X4_readToFault 31 rfl) rfl (lv_at hl 0 rfl) ?_
              refine kGet (ci := 4) C in_X4 hw 12 rfl rfl 3 (by decide) (C.2.2.2.2.2.2.1 _ q1_179) rfl rfl (dq dt_X4_readToFault 32 rfl) ?_
              cases hF
              exact kRetI hQ C hw (dq dt_X4_readToFault 33 rfl)
          · replace hF := if_t c42 hF
            refine lv_iconst (v := (-1 : Int32)) hx hb (dq dt_X4_readToFault 22 rfl) (by decide) ?_
            cases hF
            exact kRetI hQ C hw (dq dt_X4_readToFault 23 rfl)
        · replace hF := if_t c37 hF
          refine lv_aload_n hx hb (dq dt_X4_readToFault 11 rfl) rfl (lv_at hl 0 rfl) ?_
          refine kGet (ci := 4) C in_X4 hw 12 rfl rfl 3 (by decide) (C.2.2.2.2.2.2.1 _ q1_179) rfl rfl (dq dt_X4_readToFault 12 rfl) ?_
          cases hF
          exact kRetI hQ C hw (dq dt_X4_readToFault 13 rfl)
  exact L18 _ (1 : Int32) g_yards g_seeps g_children g_tides g_seepYard g_seepSize g_growth g_level g_kind g_childYard g_pace g_ear r_sort r_begin (0 : Int32) r_lines hF _ _ _ hw (lv_sub hl [1, 0] rfl)
def F_X8_keptNight_0 (p1 : Int32) : Option Unit := if p1 = 0 then some () else none
def F_X8_keptNight_1 (p1 : Int32) : Option Unit := if p1 = 0 then none else some ()
abbrev rm_X8_keptNight : Room := { frames := 0, cells := 0, slots := 0, locals := 0 }
theorem kd_X8_keptNight : yX8_keptNight.cls = RX8 ∧ yX8_keptNight.cls ≠ "java/lang/invoke/MethodHandle" ∧ yX8_keptNight.cls ≠ "java/lang/invoke/VarHandle" ∧ (parseMethodDescriptor yX8_keptNight.desc).map (fun d => d.parameters.length) = some 1 := by decide +kernel
set_option maxRecDepth 100000 in
set_option maxHeartbeats 4000000 in
theorem A_X8_keptNight_0 (l : Launch) (D : va_G) (cB cI cJ cZ : ClassId) (ad : (Nat → Nat) × (Nat → Nat)) (a_d a_x a_t a_g a_r a_n a_k a_j a_f a_e a_z a_c : Nat) (d_keptBits : Int32) (p1 : Int32) (hF : F_X8_keptNight_0 p1 = some ()) : kM l yX8_keptNight (Cond.code yX8_keptNight cX8_keptNight 2 (Option.some (FieldType.object "DikeWatch$Night")) :: W0) rm_X8_keptNight D (kT cB cI cJ cZ) ad [.ref a_d, .int p1] [(a_d, .inr (8, [.ref a_x, .ref a_t, .ref a_g, .ref a_r, .ref a_n, .ref a_k, .ref a_j, .int d_keptBits, .ref a_f, .ref a_e, .ref a_z, .ref a_c]))] (some (.ref a_k)) [(a_d, .inr (8, [.ref a_x, .ref a_t, .ref a_g, .ref a_r, .ref a_n, .ref a_k, .ref a_j, .int d_keptBits, .ref a_f, .ref a_e, .ref a_z, .ref a_c]))] := by
  unfold F_X8_keptNight_0 at hF
  refine kStart (lv := [(0, .ref a_d), (1, .int p1)]) (own := "DikeWatch") (plainFor_of_name (by decide)) rfl (Nat.le_of_ble_eq_true rfl) rfl ?_
  intro p e s m args below meth c A Q ls hQ C hx hb hw hl
  refine lv_iload_n hx hb (dq dt_X8_keptNight 0 rfl) rfl (lv_at hl 1 rfl) ?_
  refine lv_if_ne (tgt := 11) hx hb (dq dt_X8_keptNight 1 rfl) (by decide) (fun c1 => ?_) (fun c1 => ?_)
  · rw [if_neg c1] at hF; cases hF
  · refine lv_aload_n hx hb (dq dt_X8_keptNight 2 rfl) rfl (lv_at hl 0 rfl) ?_
    refine kGet (ci := 8) C in_X8 hw 0 rfl rfl 5 (by decide) (C.2.2.2.2.2.2.1 _ q2_27) rfl rfl (dq dt_X8_keptNight 3 rfl) ?_
    refine lv_goto (tgt := 15) hx hb (dq dt_X8_keptNight 4 rfl) (by decide) ?_
    exact kRetA hQ C hw (dq dt_X8_keptNight 7 rfl)
set_option maxRecDepth 100000 in
set_option maxHeartbeats 4000000 in
theorem A_X8_keptNight_1 (l : Launch) (D : va_G) (cB cI cJ cZ : ClassId) (ad : (Nat → Nat) × (Nat → Nat)) (a_d a_x a_t a_g a_r a_n a_k a_j a_f a_e a_z a_c : Nat) (d_keptBits : Int32) (p1 : Int32) (hF : F_X8_keptNight_1 p1 = some ()) : kM l yX8_keptNight (Cond.code yX8_keptNight cX8_keptNight 2 (Option.some (FieldType.object "DikeWatch$Night")) :: W0) rm_X8_keptNight D (kT cB cI cJ cZ) ad [.ref a_d, .int p1] [(a_d, .inr (8, [.ref a_x, .ref a_t, .ref a_g, .ref a_r, .ref a_n, .ref a_k, .ref a_j, .int d_keptBits, .ref a_f, .ref a_e, .ref a_z, .ref a_c]))] (some (.ref a_j)) [(a_d, .inr (8, [.ref a_x, .ref a_t, .ref a_g, .ref a_r, .ref a_n, .ref a_k, .ref a_j, .int d_keptBits, .ref a_f, .ref a_e, .ref a_z, .ref a_c]))] := by
  unfold F_X8_keptNight_1 at hF
  refine kStart (lv := [(0, .ref a_d), (1, .int p1)]) (own := "DikeWatch") (plainFor_of_name (by decide)) rfl (Nat.le_of_ble_eq_true rfl) rfl ?_
  intro p e s m args below meth c A Q ls hQ C hx hb hw hl
  refine lv_iload_n hx hb (dq dt_X8_keptNight 0 rfl) rfl (lv_at hl 1 rfl) ?_
  refine lv_if_ne (tgt := 11) hx hb (dq dt_X8_keptNight 1 rfl) (by decide) (fun c1 => ?_) (fun c1 => ?_)
  · refine lv_aload_n hx hb (dq dt_X8_keptNight 5 rfl) rfl (lv_at hl 0 rfl) ?_
    refine kGet (ci := 8) C in_X8 hw 0 rfl rfl 6 (by decide) (C.2.2.2.2.2.2.1 _ q2_28) rfl rfl (dq dt_X8_keptNight 6 rfl) ?_
    exact kRetA hQ C hw (dq dt_X8_keptNight 7 rfl)
  · rw [if_pos c1] at hF; cases hF
def F_X8_keep (d_keptBits : Int32) (n_hours : Int32) (n_filled : Int32) (n_toLesser : Int32) (n_size : Nat → Int32) (n_yard : Nat → Int32) (n_oranges : Nat → Int32) (k_hours : Int32) (k_filled : Int32) (k_toLesser : Int32) (k_size : Nat → Int32) (k_yard : Nat → Int32) (k_oranges : Nat → Int32) (j_hours : Int32) (j_filled : Int32) (j_toLesser : Int32) (j_size : Nat → Int32) (j_yard : Nat → Int32) (j_oranges : Nat → Int32) (p1 : Int32) : Option (Int32 × Int32 × Int32 × Int32 × Int32 × (Nat → Int32) × (Nat → Int32) × (Nat → Int32) × Int32 × Int32 × Int32 × (Nat → Int32) × (Nat → Int32) × (Nat → Int32)) :=
  zc1 (F_X8_isWithin p1 (0 : Int32) (1 : Int32)) (fun v1 => if v1 = 0 then (some ((-2 : Int32), d_keptBits, k_hours, k_filled, k_toLesser, k_size, k_yard, k_oranges, j_hours, j_filled, j_toLesser, j_size, j_yard, j_oranges)) else (if p1 = 0 then (zc0 (F_X8_keptNight_0 p1) (zc6 (F_X3_copyFrom k_hours k_filled k_toLesser k_size k_yard k_oranges n_hours n_filled n_toLesser n_size n_yard n_oranges) (fun g6 g7 g8 g9 g10 g11 => bd (d_keptBits ||| ((1 : Int32) <<< (p1 &&& 31))) (fun v13 => some (n_hours, v13, g6, g7, g8, g9, g10, g11, j_hours, j_filled, j_toLesser, j_size, j_yard, j_oranges))))) else (zc0 (F_X8_keptNight_1 p1) (zc6 (F_X3_copyFrom j_hours j_filled j_toLesser j_size j_yard j_oranges n_hours n_filled n_toLesser n_size n_yard n_oranges) (fun g15 g16 g17 g18 g19 g20 => bd (d_keptBits ||| ((1 : Int32) <<< (p1 &&& 31))) (fun v22 => some (n_hours, v22, k_hours, k_filled, k_toLesser, k_size, k_yard, k_oranges, g15, g16, g17, g18, g19, g20)))))))
abbrev rm_X8_keep : Room := { frames := 2, cells := 0, slots := 0, locals := 61 }
theorem kd_X8_keep : yX8_keep.cls = RX8 ∧ yX8_keep.cls ≠ "java/lang/invoke/MethodHandle" ∧ yX8_keep.cls ≠ "java/lang/invoke/VarHandle" ∧ (parseMethodDescriptor yX8_keep.desc).map (fun d => d.parameters.length) = some 1 := by decide +kernel
set_option maxRecDepth 100000 in
set_option maxHeartbeats 4000000 in
theorem A_X8_keep (l : Launch) (D : va_G) (cB cI cJ cZ : ClassId) (ad : (Nat → Nat) × (Nat → Nat)) (a_d a_x a_t a_g a_r a_n a_k a_j a_f a_e a_z a_c a_n_size a_n_yard a_n_oranges a_k_size a_k_yard a_k_oranges a_j_size a_j_yard a_j_oranges : Nat) (d_keptBits : Int32) (n_hours : Int32) (n_filled : Int32) (n_toLesser : Int32) (n_size : Nat → Int32) (n_yard : Nat → Int32) (n_oranges : Nat → Int32) (k_hours : Int32) (k_filled : Int32) (k_toLesser : Int32) (k_size : Nat → Int32) (k_yard : Nat → Int32) (k_oranges : Nat → Int32) (j_hours : Int32) (j_filled : Int32) (j_toLesser : Int32) (j_size : Nat → Int32) (j_yard : Nat → Int32) (j_oranges : Nat → Int32) (p1 : Int32) (r : Int32) (d_keptBits' : Int32) (k_hours' : Int32) (k_filled' : Int32) (k_toLesser' : Int32) (k_size' : Nat → Int32) (k_yard' : Nat → Int32) (k_oranges' : Nat → Int32) (j_hours' : Int32) (j_filled' : Int32) (j_toLesser' : Int32) (j_size' : Nat → Int32) (j_yard' : Nat → Int32) (j_oranges' : Nat → Int32) (hF : F_X8_keep d_keptBits n_hours n_filled n_toLesser n_size n_yard n_oranges k_hours k_filled k_toLesser k_size k_yard k_oranges j_hours j_filled j_toLesser j_size j_yard j_oranges p1 = some (r, d_keptBits', k_hours', k_filled', k_toLesser', k_size', k_yard', k_oranges', j_hours', j_filled', j_toLesser', j_size', j_yard', j_oranges')) : kM l yX8_keep (Cond.code yX8_keep cX8_keep 2 (some .int) :: W0) rm_X8_keep D (kT cB cI cJ cZ) ad [.ref a_d, .int p1] [(a_d, .inr (8, [.ref a_x, .ref a_t, .ref a_g, .ref a_r, .ref a_n, .ref a_k, .ref a_j, .int d_keptBits, .ref a_f, .ref a_e, .ref a_z, .ref a_c])), (a_n, .inr (3, [.ref a_t, .int n_hours, .int n_filled, .ref a_n_size, .ref a_n_yard, .int n_toLesser, .ref a_n_oranges])), (a_n_size, .inl (cI, 6, .inl n_size)), (a_n_yard, .inl (cI, 5, .inl n_yard)), (a_n_oranges, .inl (cI, 5, .inl n_oranges)), (a_k, .inr (3, [.ref a_t, .int k_hours, .int k_filled, .ref a_k_size, .ref a_k_yard, .int k_toLesser, .ref a_k_oranges])), (a_k_size, .inl (cI, 6, .inl k_size)), (a_k_yard, .inl (cI, 5, .inl k_yard)), (a_k_oranges, .inl (cI, 5, .inl k_oranges)), (a_j, .inr (3, [.ref a_t, .int j_hours, .int j_filled, .ref a_j_size, .ref a_j_yard, .int j_toLesser, .ref a_j_oranges])), (a_j_size, .inl (cI, 6, .inl j_size)), (a_j_yard, .inl (cI, 5, .inl j_yard)), (a_j_oranges, .inl (cI, 5, .inl j_oranges))] (some (.int r)) [(a_d, .inr (8, [.ref a_x, .ref a_t, .ref a_g, .ref a_r, .ref a_n, .ref a_k, .ref a_j, .int (d_keptBits'), .ref a_f, .ref a_e, .ref a_z, .ref a_c])), (a_n, .inr (3, [.ref a_t, .int n_hours, .int n_filled, .ref a_n_size, .ref a_n_yard, .int n_toLesser, .ref a_n_oranges])), (a_n_size, .inl (cI, 6, .inl n_size)), (a_n_yard, .inl (cI, 5, .inl n_yard)), (a_n_oranges, .inl (cI, 5, .inl n_oranges)), (a_k, .inr (3, [.ref a_t, .int (k_hours'), .int (k_filled'), .ref a_k_size, .ref a_k_yard, .int (k_toLesser'), .ref a_k_oranges])), (a_k_size, .inl (cI, 6, .inl (k_size'))), (a_k_yard, .inl (cI, 5, .inl (k_yard'))), (a_k_oranges, .inl (cI, 5, .inl (k_oranges'))), (a_j, .inr (3, [.ref a_t, .int (j_hours'), .int (j_filled'), .ref a_j_size, .ref a_j_yard, .int (j_toLesser'), .ref a_j_oranges])), (a_j_size, .inl (cI, 6, .inl (j_size'))), (a_j_yard, .inl (cI, 5, .inl (j_yard'))), (a_j_oranges, .inl (cI, 5, .inl (j_oranges')))] := by
  unfold F_X8_keep at hF
  refine kStart (lv := [(0, .ref a_d), (1, .int p1)]) (own := "DikeWatch") (plainFor_of_name (by decide)) rfl (Nat.le_of_ble_eq_true rfl) rfl ?_
  intro p e s m args below meth c A Q ls hQ C hx hb hw hl
  refine lv_iload_n hx hb (dq dt_X8_keep 0 rfl) rfl (lv_at hl 1 rfl) ?_
  refine lv_iconst (v := (0 : Int32)) hx hb (dq dt_X8_keep 1 rfl) (by decide) ?_
  refine lv_iconst (v := (1 : Int32)) hx hb (dq dt_X8_keep 2 rfl) (by decide) ?_
  obtain ⟨v1, hr2, hF⟩ := zc1_ hF
  refine kCallSP C hw (A_X8_isWithin l D cB cI cJ cZ ad p1 (0 : Int32) (1 : Int32) v1 hr2) (va_cwS 3 C.2.2.2.2.2.2.1 (w0_S0 q2_65 q2_63 q2_64 q1_1) rfl rfl rfl ke_X8_isWithin ⟨Nat.le_of_ble_eq_true rfl, Nat.le_of_ble_eq_true rfl⟩) hl.1 rfl rfl rfl (Nat.le_of_ble_eq_true rfl) ⟨Nat.le_of_ble_eq_true rfl, Nat.le_of_ble_eq_true rfl⟩ (dq dt_X8_keep 3 rfl) (fun H locs hw => ?_)
  refine lv_if_ne (tgt := 12) hx hb (dq dt_X8_keep 4 rfl) (by decide) (fun c3 => ?_) (fun c3 => ?_)
  · replace hF := if_f c3 hF
    refine lv_aload_n hx hb (dq dt_X8_keep 7 rfl) rfl (lv_at hl 0 rfl) ?_
    refine lv_iload_n hx hb (dq dt_X8_keep 8 rfl) rfl (lv_at hl 1 rfl) ?_
    by_cases c4 : p1 = 0
    · replace hF := if_t c4 hF
      obtain ⟨hr5, hF⟩ := zc0_ hF
      refine kCallVR C hw (A_X8_keptNight_0 l D cB cI cJ cZ ad a_d a_x a_t a_g a_r a_n a_k a_j a_f a_e a_z a_c d_keptBits p1 hr5) (cwV 1 C.2.2.2.2.2.2.1 (w0_V0 q3_130 q3_127 q3_129 (ws0 10 rfl) q1_1) rfl rfl rfl kd_X8_keptNight ⟨Nat.le_of_ble_eq_true rfl, Nat.le_of_ble_eq_true rfl⟩) [0] rfl rfl 0 8 rfl rfl hl.1 rfl rfl rfl (Nat.le_of_ble_eq_true rfl) ⟨Nat.le_of_ble_eq_true rfl, Nat.le_of_ble_eq_true rfl⟩ (dq dt_X8_keep 9 rfl) (fun H locs hw => ?_)
      refine lv_aload_n hx hb (dq dt_X8_keep 10 rfl) rfl (lv_at hl 0 rfl) ?_
      refine kGet (ci := 8) C in_X8 hw 0 rfl rfl 4 (by decide) (C.2.2.2.2.2.2.1 _ q2_26) rfl rfl (dq dt_X8_keep 11 rfl) ?_
      obtain ⟨g6, g7, g8, g9, g10, g11, hr12, hF⟩ := zc6_ hF
      refine kCallV (ws2 := [(a_d, .inr (8, [.ref a_x, .ref a_t, .ref a_g, .ref a_r, .ref a_n, .ref a_k, .ref a_j, .int d_keptBits, .ref a_f, .ref a_e, .ref a_z, .ref a_c])), (a_n, .inr (3, [.ref a_t, .int n_hours, .int n_filled, .ref a_n_size, .ref a_n_yard, .int n_toLesser, .ref a_n_oranges])), (a_n_size, .inl (cI, 6, .inl n_size)), (a_n_yard, .inl (cI, 5, .inl n_yard)), (a_n_oranges, .inl (cI, 5, .inl n_oranges)), (a_k, .inr (3, [.ref a_t, .int g6, .int g7, .ref a_k_size, .ref a_k_yard, .int g8, .ref a_k_oranges])), (a_k_size, .inl (cI, 6, .inl g9)), (a_k_yard, .inl (cI, 5, .inl g10)), (a_k_oranges, .inl (cI, 5, .inl g11)), (a_j, .inr (3, [.ref a_t, .int j_hours, .int j_filled, .ref a_j_size, .ref a_j_yard, .int j_toLesser, .ref a_j_oranges])), (a_j_size, .inl (cI, 6, .inl j_size)), (a_j_yard, .inl (cI, 5, .inl j_yard)), (a_j_oranges, .inl (cI, 5, .inl j_oranges))]) C hw (A_X3_copyFrom l D cB cI cJ cZ ad a_k a_t a_k_size a_k_yard a_k_oranges a_n a_n_size a_n_yard a_n_oranges k_hours k_filled k_toLesser k_size k_yard k_oranges n_hours n_filled n_toLesser n_size n_yard n_oranges g6 g7 g8 g9 g10 g11 hr12) (cwV 1 C.2.2.2.2.2.2.1 (w0_V0 q3_134 q3_131 q3_132 q3_133 q1_4) rfl rfl rfl kd_X3_copyFrom ⟨Nat.le_of_ble_eq_true rfl, Nat.le_of_ble_eq_true rfl⟩) [5, 6, 7, 8, 1, 2, 3, 4] rfl rfl rfl rfl 5 3 rfl rfl hl.1 rfl rfl rfl (Nat.le_of_ble_eq_true rfl) ⟨Nat.le_of_ble_eq_true rfl, Nat.le_of_ble_eq_true rfl⟩ (dq dt_X8_keep 12 rfl) (fun H locs hw => ?_)
      refine lv_aload_n hx hb (dq dt_X8_keep 13 rfl) rfl (lv_at hl 0 rfl) ?_
      refine lv_dup hx hb (dq dt_X8_keep 14 rfl) rfl ?_
      refine kGet (ci := 8) C in_X8 hw 0 rfl rfl 7 (by decide) (C.2.2.2.2.2.2.1 _ q2_29) rfl rfl (dq dt_X8_keep 15 rfl) ?_
      refine lv_iconst (v := (1 : Int32)) hx hb (dq dt_X8_keep 16 rfl) (by decide) ?_
      refine lv_iload_n hx hb (dq dt_X8_keep 17 rfl) rfl (lv_at hl 1 rfl) ?_
      refine lv_ishl hx hb (dq dt_X8_keep 18 rfl) ?_
      refine lv_ior hx hb (dq dt_X8_keep 19 rfl) ?_
      obtain ⟨v13, ev13, hF⟩ := bd_ hF
      refine kNmI ev13 ?_
      refine kPut (ci := 8) (ws' := [(a_d, .inr (8, [.ref a_x, .ref a_t, .ref a_g, .ref a_r, .ref a_n, .ref a_k, .ref a_j, .int v13, .ref a_f, .ref a_e, .ref a_z, .ref a_c])), (a_n, .inr (3, [.ref a_t, .int n_hours, .int n_filled, .ref a_n_size, .ref a_n_yard, .int n_toLesser, .ref a_n_oranges])), (a_n_size, .inl (cI, 6, .inl n_size)), (a_n_yard, .inl (cI, 5, .inl n_yard)), (a_n_oranges, .inl (cI, 5, .inl n_oranges)), (a_k, .inr (3, [.ref a_t, .int g6, .int g7, .ref a_k_size, .ref a_k_yard, .int g8, .ref a_k_oranges])), (a_k_size, .inl (cI, 6, .inl g9)), (a_k_yard, .inl (cI, 5, .inl g10)), (a_k_oranges, .inl (cI, 5, .inl g11)), (a_j, .inr (3, [.ref a_t, .int j_hours, .int j_filled, .ref a_j_size, .ref a_j_yard, .int j_toLesser, .ref a_j_oranges])), (a_j_size, .inl (cI, 6, .inl j_size)), (a_j_yard, .inl (cI, 5, .inl j_yard)), (a_j_oranges, .inl (cI, 5, .inl j_oranges))]) C in_X8 tyX8 tyX8_ok nmX8 hw 0 rfl rfl 7 (by decide) (C.2.2.2.2.2.2.1 _ q2_29) rfl rfl rfl rfl (Nat.le_of_ble_eq_true rfl) rfl (dq dt_X8_keep 20 rfl) (fun H locs hw => ?_)
      refine lv_aload_n hx hb (dq dt_X8_keep 21 rfl) rfl (lv_at hl 0 rfl) ?_
      refine kGet (ci := 8) C in_X8 hw 0 rfl rfl 4 (by decide) (C.2.2.2.2.2.2.1 _ q2_26) rfl rfl (dq dt_X8_keep 22 rfl) ?_
      refine kGet (ci := 3) C in_X3 hw 1 rfl rfl 1 (by decide) (C.2.2.2.2.2.2.1 _ q1_122) rfl rfl (dq dt_X8_keep 23 rfl) ?_
      cases hF
      exact kRetI hQ C hw (dq dt_X8_keep 24 rfl)
    · replace hF := if_f c4 hF
      obtain ⟨hr14, hF⟩ := zc0_ hF
      refine kCallVR C hw (A_X8_keptNight_1 l D cB cI cJ cZ ad a_d a_x a_t a_g a_r a_n a_k a_j a_f a_e a_z a_c d_keptBits p1 hr14) (cwV 1 C.2.2.2.2.2.2.1 (w0_V0 q3_130 q3_127 q3_129 (ws0 10 rfl) q1_1) rfl rfl rfl kd_X8_keptNight ⟨Nat.le_of_ble_eq_true rfl, Nat.le_of_ble_eq_true rfl⟩) [0] rfl rfl 0 8 rfl rfl hl.1 rfl rfl rfl (Nat.le_of_ble_eq_true rfl) ⟨Nat.le_of_ble_eq_true rfl, Nat.le_of_ble_eq_true rfl⟩ (dq dt_X8_keep 9 rfl) (fun H locs hw => ?_)
      refine lv_aload_n hx hb (dq dt_X8_keep 10 rfl) rfl (lv_at hl 0 rfl) ?_
      refine kGet (ci := 8) C in_X8 hw 0 rfl rfl 4 (by decide) (C.2.2.2.2.2.2.1 _ q2_26) rfl rfl (dq dt_X8_keep 11 rfl) ?_
      obtain ⟨g15, g16, g17, g18, g19, g20, hr21, hF⟩ := zc6_ hF
      refine kCallV (ws2 := [(a_d, .inr (8, [.ref a_x, .ref a_t, .ref a_g, .ref a_r, .ref a_n, .ref a_k, .ref a_j, .int d_keptBits, .ref a_f, .ref a_e, .ref a_z, .ref a_c])), (a_n, .inr (3, [.ref a_t, .int n_hours, .int n_filled, .ref a_n_size, .ref a_n_yard, .int n_toLesser, .ref a_n_oranges])), (a_n_size, .inl (cI, 6, .inl n_size)), (a_n_yard, .inl (cI, 5, .inl n_yard)), (a_n_oranges, .inl (cI, 5, .inl n_oranges)), (a_k, .inr (3, [.ref a_t, .int k_hours, .int k_filled, .ref a_k_size, .ref a_k_yard, .int k_toLesser, .ref a_k_oranges])), (a_k_size, .inl (cI, 6, .inl k_size)), (a_k_yard, .inl (cI, 5, .inl k_yard)), (a_k_oranges, .inl (cI, 5, .inl k_oranges)), (a_j, .inr (3, [.ref a_t, .int g15, .int g16, .ref a_j_size, .ref a_j_yard, .int g17, .ref a_j_oranges])), (a_j_size, .inl (cI, 6, .inl g18)), (a_j_yard, .inl (cI, 5, .inl g19)), (a_j_oranges, .inl (cI, 5, .inl g20))]) C hw (A_X3_copyFrom l D cB cI cJ cZ ad a_j a_t a_j_size a_j_yard a_j_oranges a_n a_n_size a_n_yard a_n_oranges j_hours j_filled j_toLesser j_size j_yard j_oranges n_hours n_filled n_toLesser n_size n_yard n_oranges g15 g16 g17 g18 g19 g20 hr21) (cwV 1 C.2.2.2.2.2.2.1 (w0_V0 q3_134 q3_131 q3_132 q3_133 q1_4) rfl rfl rfl kd_X3_copyFrom ⟨Nat.le_of_ble_eq_true rfl, Nat.le_of_ble_eq_true rfl⟩) [9, 10, 11, 12, 1, 2, 3, 4] rfl rfl rfl rfl 9 3 rfl rfl hl.1 rfl rfl rfl (Nat.le_of_ble_eq_true rfl) ⟨Nat.le_of_ble_eq_true rfl, Nat.le_of_ble_eq_true rfl⟩ (dq dt_X8_keep 12 rfl) (fun H locs hw => ?_)
      refine lv_aload_n hx hb (dq dt_X8_keep 13 rfl) rfl (lv_at hl 0 rfl) ?_
      refine lv_dup hx hb (dq dt_X8_keep 14 rfl) rfl ?_
      refine kGet (ci := 8) C in_X8 hw 0 rfl rfl 7 (by decide) (C.2.2.2.2.2.2.1 _ q2_29) rfl rfl (dq dt_X8_keep 15 rfl) ?_
      refine lv_iconst (v := (1 : Int32)) hx hb (dq dt_X8_keep 16 rfl) (by decide) ?_
      refine lv_iload_n hx hb (dq dt_X8_keep 17 rfl) rfl (lv_at hl 1 rfl) ?_
      refine lv_ishl hx hb (dq dt_X8_keep 18 rfl) ?_
      refine lv_ior hx hb (dq dt_X8_keep 19 rfl) ?_
      obtain ⟨v22, ev22, hF⟩ := bd_ hF
      refine kNmI ev22 ?_
      refine kPut (ci := 8) (ws' := [(a_d, .inr (8, [.ref a_x, .ref a_t, .ref a_g, .ref a_r, .ref a_n, .ref a_k, .ref a_j, .int v22, .ref a_f, .ref a_e, .ref a_z, .ref a_c])), (a_n, .inr (3, [.ref a_t, .int n_hours, .int n_filled, .ref a_n_size, .ref a_n_yard, .int n_toLesser, .ref a_n_oranges])), (a_n_size, .inl (cI, 6, .inl n_size)), (a_n_yard, .inl (cI, 5, .inl n_yard)), (a_n_oranges, .inl (cI, 5, .inl n_oranges)), (a_k, .inr (3, [.ref a_t, .int k_hours, .int k_filled, .ref a_k_size, .ref a_k_yard, .int k_toLesser, .ref a_k_oranges])), (a_k_size, .inl (cI, 6, .inl k_size)), (a_k_yard, .inl (cI, 5, .inl k_yard)), (a_k_oranges, .inl (cI, 5, .inl k_oranges)), (a_j, .inr (3, [.ref a_t, .int g15, .int g16, .ref a_j_size, .ref a_j_yard, .int g17, .ref a_j_oranges])), (a_j_size, .inl (cI, 6, .inl g18)), (a_j_yard, .inl (cI, 5, .inl g19)), (a_j_oranges, .inl (cI, 5, .inl g20))]) C in_X8 tyX8 tyX8_ok nmX8 hw 0 rfl rfl 7 (by decide) (C.2.2.2.2.2.2.1 _ q2_29) rfl rfl rfl rfl (Nat.le_of_ble_eq_true rfl) rfl (dq dt_X8_keep 20 rfl) (fun H locs hw => ?_)
      refine lv_aload_n hx hb (dq dt_X8_keep 21 rfl) rfl (lv_at hl 0 rfl) ?_
      refine kGet (ci := 8) C in_X8 hw 0 rfl rfl 4 (by decide) (C.2.2.2.2.2.2.1 _ q2_26) rfl rfl (dq dt_X8_keep 22 rfl) ?_
      refine kGet (ci := 3) C in_X3 hw 1 rfl rfl 1 (by decide) (C.2.2.2.2.2.2.1 _ q1_122) rfl rfl (dq dt_X8_keep 23 rfl) ?_
      cases hF
      exact kRetI hQ C hw (dq dt_X8_keep 24 rfl)
  · replace hF := if_t c3 hF
    refine lv_bipush (v := (-2 : Int32)) hx hb (dq dt_X8_keep 5 rfl) (by decide) ?_
    cases hF
    exact kRetI hQ C hw (dq dt_X8_keep 6 rfl)
def F_X8_back (d_keptBits : Int32) (n_hours : Int32) (n_filled : Int32) (n_toLesser : Int32) (n_size : Nat → Int32) (n_yard : Nat → Int32) (n_oranges : Nat → Int32) (k_hours : Int32) (k_filled : Int32) (k_toLesser : Int32) (k_size : Nat → Int32) (k_yard : Nat → Int32) (k_oranges : Nat → Int32) (j_hours : Int32) (j_filled : Int32) (j_toLesser : Int32) (j_size : Nat → Int32) (j_yard : Nat → Int32) (j_oranges : Nat → Int32) (p1 : Int32) : Option (Int32 × Int32 × Int32 × Int32 × (Nat → Int32) × (Nat → Int32) × (Nat → Int32)) :=
  zc1 (F_X8_isWithin p1 (0 : Int32) (1 : Int32)) (fun v1 => if v1 = 0 then (some ((-2 : Int32), n_hours, n_filled, n_toLesser, n_size, n_yard, n_oranges)) else (zc1 (F_X8_hasBit d_keptBits p1) (fun v4 => if v4 = 0 then (some ((-4 : Int32), n_hours, n_filled, n_toLesser, n_size, n_yard, n_oranges)) else (if p1 = 0 then (zc0 (F_X8_keptNight_0 p1) (zc6 (F_X3_copyFrom n_hours n_filled n_toLesser n_size n_yard n_oranges k_hours k_filled k_toLesser k_size k_yard k_oranges) (fun g9 g10 g11 g12 g13 g14 => some (g9, g9, g10, g11, g12, g13, g14)))) else (zc0 (F_X8_keptNight_1 p1) (zc6 (F_X3_copyFrom n_hours n_filled n_toLesser n_size n_yard n_oranges j_hours j_filled j_toLesser j_size j_yard j_oranges) (fun g17 g18 g19 g20 g21 g22 => some (g17, g17, g18, g19, g20, g21, g22))))))))
abbrev rm_X8_back : Room := { frames := 2, cells := 0, slots := 0, locals := 61 }
theorem kd_X8_back : yX8_back.cls = RX8 ∧ yX8_back.cls ≠ "java/lang/invoke/MethodHandle" ∧ yX8_back.cls ≠ "java/lang/invoke/VarHandle" ∧ (parseMethodDescriptor yX8_back.desc).map (fun d => d.parameters.length) = some 1 := by decide +kernel
set_option maxRecDepth 100000 in
set_option maxHeartbeats 4000000 in
theorem A_X8_back (l : Launch) (D : va_G) (cB cI cJ cZ : ClassId) (ad : (Nat → Nat) × (Nat → Nat)) (a_d a_x a_t a_g a_r a_n a_k a_j a_f a_e a_z a_c a_n_size a_n_yard a_n_oranges a_k_size a_k_yard a_k_oranges a_j_size a_j_yard a_j_oranges : Nat) (d_keptBits : Int32) (n_hours : Int32) (n_filled : Int32) (n_toLesser : Int32) (n_size : Nat → Int32) (n_yard : Nat → Int32) (n_oranges : Nat → Int32) (k_hours : Int32) (k_filled : Int32) (k_toLesser : Int32) (k_size : Nat → Int32) (k_yard : Nat → Int32) (k_oranges : Nat → Int32) (j_hours : Int32) (j_filled : Int32) (j_toLesser : Int32) (j_size : Nat → Int32) (j_yard : Nat → Int32) (j_oranges : Nat → Int32) (p1 : Int32) (r : Int32) (n_hours' : Int32) (n_filled' : Int32) (n_toLesser' : Int32) (n_size' : Nat → Int32) (n_yard' : Nat → Int32) (n_oranges' : Nat → Int32) (hF : F_X8_back d_keptBits n_hours n_filled n_toLesser n_size n_yard n_oranges k_hours k_filled k_toLesser k_size k_yard k_oranges j_hours j_filled j_toLesser j_size j_yard j_oranges p1 = some (r, n_hours', n_filled', n_toLesser', n_size', n_yard', n_oranges')) : kM l yX8_back (Cond.code yX8_back cX8_back 2 (some .int) :: W0) rm_X8_back D (kT cB cI cJ cZ) ad [.ref a_d, .int p1] [(a_d, .inr (8, [.ref a_x, .ref a_t, .ref a_g, .ref a_r, .ref a_n, .ref a_k, .ref a_j, .int d_keptBits, .ref a_f, .ref a_e, .ref a_z, .ref a_c])), (a_n, .inr (3, [.ref a_t, .int n_hours, .int n_filled, .ref a_n_size, .ref a_n_yard, .int n_toLesser, .ref a_n_oranges])), (a_n_size, .inl (cI, 6, .inl n_size)), (a_n_yard, .inl (cI, 5, .inl n_yard)), (a_n_oranges, .inl (cI, 5, .inl n_oranges)), (a_k, .inr (3, [.ref a_t, .int k_hours, .int k_filled, .ref a_k_size, .ref a_k_yard, .int k_toLesser, .ref a_k_oranges])), (a_k_size, .inl (cI, 6, .inl k_size)), (a_k_yard, .inl (cI, 5, .inl k_yard)), (a_k_oranges, .inl (cI, 5, .inl k_oranges)), (a_j, .inr (3, [.ref a_t, .int j_hours, .int j_filled, .ref a_j_size, .ref a_j_yard, .int j_toLesser, .ref a_j_oranges])), (a_j_size, .inl (cI, 6, .inl j_size)), (a_j_yard, .inl (cI, 5, .inl j_yard)), (a_j_oranges, .inl (cI, 5, .inl j_oranges))] (some (.int r)) [(a_d, .inr (8, [.ref a_x, .ref a_t, .ref a_g, .ref a_r, .ref a_n, .ref a_k, .ref a_j, .int d_keptBits, .ref a_f, .ref a_e, .ref a_z, .ref a_c])), (a_n, .inr (3, [.ref a_t, .int (n_hours'), .int (n_filled'), .ref a_n_size, .ref a_n_yard, .int (n_toLesser'), .ref a_n_oranges])), (a_n_size, .inl (cI, 6, .inl (n_size'))), (a_n_yard, .inl (cI, 5, .inl (n_yard'))), (a_n_oranges, .inl (cI, 5, .inl (n_oranges'))), (a_k, .inr (3, [.ref a_t, .int k_hours, .int k_filled, .ref a_k_size, .ref a_k_yard, .int k_toLesser, .ref a_k_oranges])), (a_k_size, .inl (cI, 6, .inl k_size)), (a_k_yard, .inl (cI, 5, .inl k_yard)), (a_k_oranges, .inl (cI, 5, .inl k_oranges)), (a_j, .inr (3, [.ref a_t, .int j_hours, .int j_filled, .ref a_j_size, .ref a_j_yard, .int j_toLesser, .ref a_j_oranges])), (a_j_size, .inl (cI, 6, .inl j_size)), (a_j_yard, .inl (cI, 5, .inl j_yard)), (a_j_oranges, .inl (cI, 5, .inl j_oranges))] := by
  unfold F_X8_back at hF
  refine kStart (lv := [(0, .ref a_d), (1, .int p1)]) (own := "DikeWatch") (plainFor_of_name (by decide)) rfl (Nat.le_of_ble_eq_true rfl) rfl ?_
  intro p e s m args below meth c A Q ls hQ C hx hb hw hl
  refine lv_iload_n hx hb (dq dt_X8_back 0 rfl) rfl (lv_at hl 1 rfl) ?_
  refine lv_iconst (v := (0 : Int32)) hx hb (dq dt_X8_back 1 rfl) (by decide) ?_
  refine lv_iconst (v := (1 : Int32)) hx hb (dq dt_X8_back 2 rfl) (by decide) ?_
  obtain ⟨v1, hr2, hF⟩ := zc1_ hF
  refine kCallSP C hw (A_X8_isWithin l D cB cI cJ cZ ad p1 (0 : Int32) (1 : Int32) v1 hr2) (va_cwS 3 C.2.2.2.2.2.2.1 (w0_S0 q2_65 q2_63 q2_64 q1_1) rfl rfl rfl ke_X8_isWithin ⟨Nat.le_of_ble_eq_true rfl, Nat.le_of_ble_eq_true rfl⟩) hl.1 rfl rfl rfl (Nat.le_of_ble_eq_true rfl) ⟨Nat.le_of_ble_eq_true rfl, Nat.le_of_ble_eq_true rfl⟩ (dq dt_X8_back 3 rfl) (fun H locs hw => ?_)
  refine lv_if_ne (tgt := 12) hx hb (dq dt_X8_back 4 rfl) (by decide) (fun c3 => ?_) (fun c3 => ?_)
  · replace hF := if_f c3 hF
    refine lv_aload_n hx hb (dq dt_X8_back 7 rfl) rfl (lv_at hl 0 rfl) ?_
    refine kGet (ci := 8) C in_X8 hw 0 rfl rfl 7 (by decide) (C.2.2.2.2.2.2.1 _ q2_29) rfl rfl (dq dt_X8_back 8 rfl) ?_
    refine lv_iload_n hx hb (dq dt_X8_back 9 rfl) rfl (lv_at hl 1 rfl) ?_
    obtain ⟨v4, hr5, hF⟩ := zc1_ hF
    refine kCallSP C hw (A_X8_hasBit l D cB cI cJ cZ ad d_keptBits p1 v4 hr5) (va_cwS 2 C.2.2.2.2.2.2.1 (w0_S0 q3_18 q3_139 q3_17 q1_1) rfl rfl rfl ke_X8_hasBit ⟨Nat.le_of_ble_eq_true rfl, Nat.le_of_ble_eq_true rfl⟩) hl.1 rfl rfl rfl (Nat.le_of_ble_eq_true rfl) ⟨Nat.le_of_ble_eq_true rfl, Nat.le_of_ble_eq_true rfl⟩ (dq dt_X8_back 10 rfl) (fun H locs hw => ?_)
    refine lv_if_ne (tgt := 26) hx hb (dq dt_X8_back 11 rfl) (by decide) (fun c6 => ?_) (fun c6 => ?_)
    · replace hF := if_f c6 hF
      refine lv_aload_n hx hb (dq dt_X8_back 14 rfl) rfl (lv_at hl 0 rfl) ?_
      refine kGet (ci := 8) C in_X8 hw 0 rfl rfl 4 (by decide) (C.2.2.2.2.2.2.1 _ q2_26) rfl rfl (dq dt_X8_back 15 rfl) ?_
      refine lv_aload_n hx hb (dq dt_X8_back 16 rfl) rfl (lv_at hl 0 rfl) ?_
      refine lv_iload_n hx hb (dq dt_X8_back 17 rfl) rfl (lv_at hl 1 rfl) ?_
      by_cases c7 : p1 = 0
      · replace hF := if_t c7 hF
        obtain ⟨hr8, hF⟩ := zc0_ hF
        refine kCallVR C hw (A_X8_keptNight_0 l D cB cI cJ cZ ad a_d a_x a_t a_g a_r a_n a_k a_j a_f a_e a_z a_c d_keptBits p1 hr8) (cwV 1 C.2.2.2.2.2.2.1 (w0_V0 q3_130 q3_127 q3_129 (ws0 10 rfl) q1_1) rfl rfl rfl kd_X8_keptNight ⟨Nat.le_of_ble_eq_true rfl, Nat.le_of_ble_eq_true rfl⟩) [0] rfl rfl 0 8 rfl rfl hl.1 rfl rfl rfl (Nat.le_of_ble_eq_true rfl) ⟨Nat.le_of_ble_eq_true rfl, Nat.le_of_ble_eq_true rfl⟩ (dq dt_X8_back 18 rfl) (fun H locs hw => ?_)
        obtain ⟨g9, g10, g11, g12, g13, g14, hr15, hF⟩ := zc6_ hF
        refine kCallV (ws2 := [(a_d, .inr (8, [.ref a_x, .ref a_t, .ref a_g, .ref a_r, .ref a_n, .ref a_k, .ref a_j, .int d_keptBits, .ref a_f, .ref a_e, .ref a_z, .ref a_c])), (a_n, .inr (3, [.ref a_t, .int g9, .int g10, .ref a_n_size, .ref a_n_yard, .int g11, .ref a_n_oranges])), (a_n_size, .inl (cI, 6, .inl g12)), (a_n_yard, .inl (cI, 5, .inl g13)), (a_n_oranges, .inl (cI, 5, .inl g14)), (a_k, .inr (3, [.ref a_t, .int k_hours, .int k_filled, .ref a_k_size, .ref a_k_yard, .int k_toLesser, .ref a_k_oranges])), (a_k_size, .inl (cI, 6, .inl k_size)), (a_k_yard, .inl (cI, 5, .inl k_yard)), (a_k_oranges, .inl (cI, 5, .inl k_oranges)), (a_j, .inr (3, [.ref a_t, .int j_hours, .int j_filled, .ref a_j_size, .ref a_j_yard, .int j_toLesser, .ref a_j_oranges])), (a_j_size, .inl (cI, 6, .inl j_size)), (a_j_yard, .inl (cI, 5, .inl j_yard)), (a_j_oranges, .inl (cI, 5, .inl j_oranges))]) C hw (A_X3_copyFrom l D cB cI cJ cZ ad a_n a_t a_n_size a_n_yard a_n_oranges a_k a_k_size a_k_yard a_k_oranges n_hours n_filled n_toLesser n_size n_yard n_oranges k_hours k_filled k_toLesser k_size k_yard k_oranges g9 g10 g11 g12 g13 g14 hr15) (cwV 1 C.2.2.2.2.2.2.1 (w0_V0 q3_134 q3_131 q3_132 q3_133 q1_4) rfl rfl rfl kd_X3_copyFrom ⟨Nat.le_of_ble_eq_true rfl, Nat.le_of_ble_eq_true rfl⟩) [1, 2, 3, 4, 5, 6, 7, 8] rfl rfl rfl rfl 1 3 rfl rfl hl.1 rfl rfl rfl (Nat.le_of_ble_eq_true rfl) ⟨Nat.le_of_ble_eq_true rfl, Nat.le_of_ble_eq_true rfl⟩ (dq dt_X8_back 19 rfl) (fun H locs hw => ?_)
        refine lv_aload_n hx hb (dq dt_X8_back 20 rfl) rfl (lv_at hl 0 rfl) ?_
        refine kGet (ci := 8) C in_X8 hw 0 rfl rfl 4 (by decide) (C.2.2.2.2.2.2.1 _ q2_26) rfl rfl (dq dt_X8_back 21 rfl) ?_
        refine kGet (ci := 3) C in_X3 hw 1 rfl rfl 1 (by decide) (C.2.2.2.2.2.2.1 _ q1_122) rfl rfl (dq dt_X8_back 22 rfl) ?_
        cases hF
        exact kRetI hQ C hw (dq dt_X8_back 23 rfl)
      · replace hF := if_f c7 hF
        obtain ⟨hr16, hF⟩ := zc0_ hF
        refine kCallVR C hw (A_X8_keptNight_1 l D cB cI cJ cZ ad a_d a_x a_t a_g a_r a_n a_k a_j a_f a_e a_z a_c d_keptBits p1 hr16) (cwV 1 C.2.2.2.2.2.2.1 (w0_V0 q3_130 q3_127 q3_129 (ws0 10 rfl) q1_1) rfl rfl rfl kd_X8_keptNight ⟨Nat.le_of_ble_eq_true rfl, Nat.le_of_ble_eq_true rfl⟩) [0] rfl rfl 0 8 rfl rfl hl.1 rfl rfl rfl (Nat.le_of_ble_eq_true rfl) ⟨Nat.le_of_ble_eq_true rfl, Nat.le_of_ble_eq_true rfl⟩ (dq dt_X8_back 18 rfl) (fun H locs hw => ?_)
        obtain ⟨g17, g18, g19, g20, g21, g22, hr23, hF⟩ := zc6_ hF
        refine kCallV (ws2 := [(a_d, .inr (8, [.ref a_x, .ref a_t, .ref a_g, .ref a_r, .ref a_n, .ref a_k, .ref a_j, .int d_keptBits, .ref a_f, .ref a_e, .ref a_z, .ref a_c])), (a_n, .inr (3, [.ref a_t, .int g17, .int g18, .ref a_n_size, .ref a_n_yard, .int g19, .ref a_n_oranges])), (a_n_size, .inl (cI, 6, .inl g20)), (a_n_yard, .inl (cI, 5, .inl g21)), (a_n_oranges, .inl (cI, 5, .inl g22)), (a_k, .inr (3, [.ref a_t, .int k_hours, .int k_filled, .ref a_k_size, .ref a_k_yard, .int k_toLesser, .ref a_k_oranges])), (a_k_size, .inl (cI, 6, .inl k_size)), (a_k_yard, .inl (cI, 5, .inl k_yard)), (a_k_oranges, .inl (cI, 5, .inl k_oranges)), (a_j, .inr (3, [.ref a_t, .int j_hours, .int j_filled, .ref a_j_size, .ref a_j_yard, .int j_toLesser, .ref a_j_oranges])), (a_j_size, .inl (cI, 6, .inl j_size)), (a_j_yard, .inl (cI, 5, .inl j_yard)), (a_j_oranges, .inl (cI, 5, .inl j_oranges))]) C hw (A_X3_copyFrom l D cB cI cJ cZ ad a_n a_t a_n_size a_n_yard a_n_oranges a_j a_j_size a_j_yard a_j_oranges n_hours n_filled n_toLesser n_size n_yard n_oranges j_hours j_filled j_toLesser j_size j_yard j_oranges g17 g18 g19 g20 g21 g22 hr23) (cwV 1 C.2.2.2.2.2.2.1 (w0_V0 q3_134 q3_131 q3_132 q3_133 q1_4) rfl rfl rfl kd_X3_copyFrom ⟨Nat.le_of_ble_eq_true rfl, Nat.le_of_ble_eq_true rfl⟩) [1, 2, 3, 4, 9, 10, 11, 12] rfl rfl rfl rfl 1 3 rfl rfl hl.1 rfl rfl rfl (Nat.le_of_ble_eq_true rfl) ⟨Nat.le_of_ble_eq_true rfl, Nat.le_of_ble_eq_true rfl⟩ (dq dt_X8_back 19 rfl) (fun H locs hw => ?_)
        refine lv_aload_n hx hb (dq dt_X8_back 20 rfl) rfl (lv_at hl 0 rfl) ?_
        refine kGet (ci := 8) C in_X8 hw 0 rfl rfl 4 (by decide) (C.2.2.2.2.2.2.1 _ q2_26) rfl rfl (dq dt_X8_back 21 rfl) ?_
        refine kGet (ci := 3) C in_X3 hw 1 rfl rfl 1 (by decide) (C.2.2.2.2.2.2.1 _ q1_122) rfl rfl (dq dt_X8_back 22 rfl) ?_
        cases hF
        exact kRetI hQ C hw (dq dt_X8_back 23 rfl)
    · replace hF := if_t c6 hF
      refine lv_bipush (v := (-4 : Int32)) hx hb (dq dt_X8_back 12 rfl) (by decide) ?_
      cases hF
      exact kRetI hQ C hw (dq dt_X8_back 13 rfl)
  · replace hF := if_t c3 hF
    refine lv_bipush (v := (-2 : Int32)) hx hb (dq dt_X8_back 5 rfl) (by decide) ?_
    cases hF
    exact kRetI hQ C hw (dq dt_X8_back 6 rfl)
