def F_X5_reckon (z_above : Int64) (z_below : Int64) (z_ways : Nat → Int64) (p1 : Int32) (p2 : Int32) (p3 : Int32) : Option (Int64 × Int64 × (Nat → Int64)) :=
  zc1 (F_X5_countWays z_ways p2 p3) (fun g1 => zl2 (fun x3 h4 ag5 => if p2 ≤ x3 then (zl2 (fun x7 h8 ag9 => zj0 (zl3 (fun x11 h12 h13 ag14 => if p2 ≤ x11 then (some (h12, h13, g1)) else (zc2 (F_X5_cancel h12 h13 (2 : Int32)) (fun g16 g17 => zc2 (F_X5_cancel g16 g17 (5 : Int32)) (fun g19 g20 => bd (x11 + (1 : Int32)) (fun v22 => ag14 v22 g19 g20))))) FU (0 : Int32) h8 h4) (fun K10 => if p2 < x7 then (K10) else (if (18 : Int32) < x7 then (K10) else (zj1 (fun y25 => bd (h8 + y25) (fun v27 => bd (x7 + (1 : Int32)) (fun v28 => ag9 v28 v27))) (fun K26 => if p1 = (-1 : Int32) then (K26 (0 : Int64)) else (if x7 < p1 then (K26 (0 : Int64)) else (rd 19 g1 x7 (fun v31 => K26 v31)))))))) FU (0 : Int32) (0 : Int64)) else (bd (h4 * (10 : Int64)) (fun v33 => bd (x3 + (1 : Int32)) (fun v34 => ag5 v34 v33)))) FU (0 : Int32) (1 : Int64))
abbrev rm_X5_reckon : Room := { frames := 2, cells := 0, slots := 0, locals := 48 }
theorem kd_X5_reckon : yX5_reckon.cls = RX5 ∧ yX5_reckon.cls ≠ "java/lang/invoke/MethodHandle" ∧ yX5_reckon.cls ≠ "java/lang/invoke/VarHandle" ∧ (parseMethodDescriptor yX5_reckon.desc).map (fun d => d.parameters.length) = some 3 := by decide +kernel
set_option maxRecDepth 100000 in
set_option maxHeartbeats 4000000 in
theorem A_X5_reckon (l : Launch) (D : va_G) (cB cI cJ cZ : ClassId) (ad : (Nat → Nat) × (Nat → Nat)) (a_z a_z_ways : Nat) (z_above : Int64) (z_below : Int64) (z_ways : Nat → Int64) (p1 : Int32) (p2 : Int32) (p3 : Int32) (z_above' : Int64) (z_below' : Int64) (z_ways' : Nat → Int64) (hF : F_X5_reckon z_above z_below z_ways p1 p2 p3 = some (z_above', z_below', z_ways')) : kM l yX5_reckon (Cond.code yX5_reckon cX5_reckon 5 (none) :: W0) rm_X5_reckon D (kT cB cI cJ cZ) ad [.ref a_z, .int p1, .int p2, .int p3] [(a_z, .inr (5, [.ref a_z_ways, .long z_above, .long z_below])), (a_z_ways, .inl (cJ, 19, .inr (.inl z_ways)))] none [(a_z, .inr (5, [.ref a_z_ways, .long (z_above'), .long (z_below')])), (a_z_ways, .inl (cJ, 19, .inr (.inl (z_ways'))))] := by
  unfold F_X5_reckon at hF
  refine kStart (lv := [(0, .ref a_z), (1, .int p1), (2, .int p2), (3, .int p3)]) (own := "DikeWatch$Storms") (plainFor_of_name (by decide)) rfl (Nat.le_of_ble_eq_true rfl) rfl ?_
  intro p e s m args below meth c A Q ls hQ C hx hb hw hl
  refine lv_aload_n hx hb (dq dt_X5_reckon 0 rfl) rfl (lv_at hl 0 rfl) ?_
  refine lv_iload_n hx hb (dq dt_X5_reckon 1 rfl) rfl (lv_at hl 2 rfl) ?_
  refine lv_iload_n hx hb (dq dt_X5_reckon 2 rfl) rfl (lv_at hl 3 rfl) ?_
  obtain ⟨g1, hr2, hF⟩ := zc1_ hF
  refine kCallV (ws2 := [(a_z, .inr (5, [.ref a_z_ways, .long z_above, .long z_below])), (a_z_ways, .inl (cJ, 19, .inr (.inl g1)))]) C hw (A_X5_countWays l D cB cI cJ cZ ad a_z a_z_ways z_above z_below z_ways p2 p3 g1 hr2) (cwV 2 C.2.2.2.2.2.2.1 (w0_V0 q4_29 q4_26 q4_28 (ws0 20 rfl) q1_8) rfl rfl rfl kd_X5_countWays ⟨Nat.le_of_ble_eq_true rfl, Nat.le_of_ble_eq_true rfl⟩) [0, 1] rfl rfl rfl rfl 0 5 rfl rfl hl.1 rfl rfl rfl (Nat.le_of_ble_eq_true rfl) ⟨Nat.le_of_ble_eq_true rfl, Nat.le_of_ble_eq_true rfl⟩ (dq dt_X5_reckon 3 rfl) (fun H locs hw => ?_)
  refine lv_aload_n hx hb (dq dt_X5_reckon 4 rfl) rfl (lv_at hl 0 rfl) ?_
  refine lv_lconst (v := (0 : Int64)) hx hb (dq dt_X5_reckon 5 rfl) (by decide) ?_
  refine kPut (ci := 5) (ws' := [(a_z, .inr (5, [.ref a_z_ways, .long (0 : Int64), .long z_below])), (a_z_ways, .inl (cJ, 19, .inr (.inl g1)))]) C in_X5 tyX5 tyX5_ok nmX5 hw 0 rfl rfl 1 (by decide) (C.2.2.2.2.2.2.1 _ q1_232) rfl rfl rfl rfl (Nat.le_of_ble_eq_true rfl) rfl (dq dt_X5_reckon 6 rfl) (fun H locs hw => ?_)
  refine lv_aload_n hx hb (dq dt_X5_reckon 7 rfl) rfl (lv_at hl 0 rfl) ?_
  refine lv_lconst (v := (1 : Int64)) hx hb (dq dt_X5_reckon 8 rfl) (by decide) ?_
  refine kPut (ci := 5) (ws' := [(a_z, .inr (5, [.ref a_z_ways, .long (0 : Int64), .long (1 : Int64)])), (a_z_ways, .inl (cJ, 19, .inr (.inl g1)))]) C in_X5 tyX5 tyX5_ok nmX5 hw 0 rfl rfl 2 (by decide) (C.2.2.2.2.2.2.1 _ q1_234) rfl rfl rfl rfl (Nat.le_of_ble_eq_true rfl) rfl (dq dt_X5_reckon 9 rfl) (fun H locs hw => ?_)
  refine lv_iconst (v := (0 : Int32)) hx hb (dq dt_X5_reckon 10 rfl) (by decide) ?_
  refine lv_istore (lv' := [(4, .int (0 : Int32)), (0, .ref a_z), (1, .int p1), (2, .int p2), (3, .int p3)]) hx hb (dq dt_X5_reckon 11 rfl) hl (by decide) rfl (fun ls hl => ?_)
  obtain ⟨K5, hK05, hK5, hF⟩ := zl2_ hF
  have L5 : ∀ (n : Nat) (x3 : Int32) (h4 : Int64), K5 n x3 h4 = some (z_above', z_below', z_ways') → ∀ (H : Heap) (locs : List Loc) (ls : Array Slot), kW D A s.heap [(a_z, .inr (5, [.ref a_z_ways, .long (0 : Int64), .long h4])), (a_z_ways, .inl (cJ, 19, .inr (.inl g1)))] H locs → lv_has ls 5 [(0, .ref a_z), (1, .int p1), (2, .int p2), (4, .int x3)] → W p l e rm_X5_reckon s m args below meth c H locs 0 0 Q (F0 m 19 ls []) := by
    intro n
    induction n with
    | zero => intro x3 h4 hF; exact (lp_no (hK05 x3 h4) hF).elim
    | succ n ih5 =>
      intro x3 h4 hF H locs ls hw hl
      replace hF := hK5 n x3 h4 hF
      refine lv_iload hx hb (dq dt_X5_reckon 12 rfl) (lv_at hl 3 rfl) ?_
      refine lv_iload_n hx hb (dq dt_X5_reckon 13 rfl) rfl (lv_at hl 2 rfl) ?_
      refine lv_icmp_ge (tgt := 43) hx hb (dq dt_X5_reckon 14 rfl) (by decide) (fun c6 => ?_) (fun c6 => ?_)
      · replace hF := if_t c6 hF
        refine lv_iconst (v := (0 : Int32)) hx hb (dq dt_X5_reckon 23 rfl) (by decide) ?_
        refine lv_istore (lv' := [(4, .int (0 : Int32)), (0, .ref a_z), (1, .int p1), (2, .int p2)]) hx hb (dq dt_X5_reckon 24 rfl) hl (by decide) rfl (fun ls hl => ?_)
        obtain ⟨K9, hK09, hK9, hF⟩ := zl2_ hF
        have L9 : ∀ (n : Nat) (x7 : Int32) (h8 : Int64), K9 n x7 h8 = some (z_above', z_below', z_ways') → ∀ (H : Heap) (locs : List Loc) (ls : Array Slot), kW D A s.heap [(a_z, .inr (5, [.ref a_z_ways, .long h8, .long h4])), (a_z_ways, .inl (cJ, 19, .inr (.inl g1)))] H locs → lv_has ls 5 [(0, .ref a_z), (1, .int p1), (2, .int p2), (4, .int x7)] → W p l e rm_X5_reckon s m args below meth c H locs 0 0 Q (F0 m 46 ls []) := by
          intro n
          induction n with
          | zero => intro x7 h8 hF; exact (lp_no (hK09 x7 h8) hF).elim
          | succ n ih9 =>
            intro x7 h8 hF H locs ls hw hl
            replace hF := hK9 n x7 h8 hF
            refine lv_iload hx hb (dq dt_X5_reckon 25 rfl) (lv_at hl 3 rfl) ?_
            refine lv_iload_n hx hb (dq dt_X5_reckon 26 rfl) rfl (lv_at hl 2 rfl) ?_
            obtain ⟨K10, hK10, hF⟩ := zj0_ hF
            have J10 : K10 = some (z_above', z_below', z_ways') → ∀ (H : Heap) (locs : List Loc) (ls : Array Slot), kW D A s.heap [(a_z, .inr (5, [.ref a_z_ways, .long h8, .long h4])), (a_z_ways, .inl (cJ, 19, .inr (.inl g1)))] H locs → lv_has ls 5 [(0, .ref a_z), (2, .int p2)] → W p l e rm_X5_reckon s m args below meth c H locs 0 0 Q (F0 m 96 ls []) := by
              intro hF H locs ls hw hl
              replace hF := hK10 hF
              refine lv_iconst (v := (0 : Int32)) hx hb (dq dt_X5_reckon 50 rfl) (by decide) ?_
              refine lv_istore (lv' := [(4, .int (0 : Int32)), (0, .ref a_z), (2, .int p2)]) hx hb (dq dt_X5_reckon 51 rfl) hl (by decide) rfl (fun ls hl => ?_)
              obtain ⟨K14, hK014, hK14, hF⟩ := zl3_ hF
              have L14 : ∀ (n : Nat) (x11 : Int32) (h12 : Int64) (h13 : Int64), K14 n x11 h12 h13 = some (z_above', z_below', z_ways') → ∀ (H : Heap) (locs : List Loc) (ls : Array Slot), kW D A s.heap [(a_z, .inr (5, [.ref a_z_ways, .long h12, .long h13])), (a_z_ways, .inl (cJ, 19, .inr (.inl g1)))] H locs → lv_has ls 5 [(0, .ref a_z), (2, .int p2), (4, .int x11)] → W p l e rm_X5_reckon s m args below meth c H locs 0 0 Q (F0 m 99 ls []) := by
                intro n
                induction n with
                | zero => intro x11 h12 h13 hF; exact (lp_no (hK014 x11 h12 h13) hF).elim
                | succ n ih14 =>
                  intro x11 h12 h13 hF H locs ls hw hl
                  replace hF := hK14 n x11 h12 h13 hF
                  refine lv_iload hx hb (dq dt_X5_reckon 52 rfl) (lv_at hl 2 rfl) ?_
                  refine lv_iload_n hx hb (dq dt_X5_reckon 53 rfl) rfl (lv_at hl 1 rfl) ?_
                  refine lv_icmp_ge (tgt := 121) hx hb (dq dt_X5_reckon 54 rfl) (by decide) (fun c15 => ?_) (fun c15 => ?_)
                  · replace hF := if_t c15 hF
                    cases hF
                    exact kRetV hQ C hw (dq dt_X5_reckon 63 rfl)
                  · replace hF := if_f c15 hF
                    refine lv_aload_n hx hb (dq dt_X5_reckon 55 rfl) rfl (lv_at hl 0 rfl) ?_
                    refine lv_iconst (v := (2 : Int32)) hx hb (dq dt_X5_reckon 56 rfl) (by decide) ?_
                    obtain ⟨g16, g17, hr18, hF⟩ := zc2_ hF
                    refine kCallV (ws2 := [(a_z, .inr (5, [.ref a_z_ways, .long g16, .long g17])), (a_z_ways, .inl (cJ, 19, .inr (.inl g1)))]) C hw (A_X5_cancel l D cB cI cJ cZ ad a_z a_z_ways h12 h13 (2 : Int32) g16 g17 hr18) (cwV 1 C.2.2.2.2.2.2.1 (w0_V0 q4_37 q4_34 q4_36 (ws0 21 rfl) q1_8) rfl rfl rfl kd_X5_cancel ⟨Nat.le_of_ble_eq_true rfl, Nat.le_of_ble_eq_true rfl⟩) [0] rfl rfl rfl rfl 0 5 rfl rfl hl.1 rfl rfl rfl (Nat.le_of_ble_eq_true rfl) ⟨Nat.le_of_ble_eq_true rfl, Nat.le_of_ble_eq_true rfl⟩ (dq dt_X5_reckon 57 rfl) (fun H locs hw => ?_)
                    refine lv_aload_n hx hb (dq dt_X5_reckon 58 rfl) rfl (lv_at hl 0 rfl) ?_
                    refine lv_iconst (v := (5 : Int32)) hx hb (dq dt_X5_reckon 59 rfl) (by decide) ?_
                    obtain ⟨g19, g20, hr21, hF⟩ := zc2_ hF
                    refine kCallV (ws2 := [(a_z, .inr (5, [.ref a_z_ways, .long g19, .long g20])), (a_z_ways, .inl (cJ, 19, .inr (.inl g1)))]) C hw (A_X5_cancel l D cB cI cJ cZ ad a_z a_z_ways g16 g17 (5 : Int32) g19 g20 hr21) (cwV 1 C.2.2.2.2.2.2.1 (w0_V0 q4_37 q4_34 q4_36 (ws0 21 rfl) q1_8) rfl rfl rfl kd_X5_cancel ⟨Nat.le_of_ble_eq_true rfl, Nat.le_of_ble_eq_true rfl⟩) [0] rfl rfl rfl rfl 0 5 rfl rfl hl.1 rfl rfl rfl (Nat.le_of_ble_eq_true rfl) ⟨Nat.le_of_ble_eq_true rfl, Nat.le_of_ble_eq_true rfl⟩ (dq dt_X5_reckon 60 rfl) (fun H locs hw => ?_)
                    obtain ⟨v22, ev22, hF⟩ := bd_ hF
                    refine lv_iinc (v := v22) (lv' := [(4, .int v22), (0, .ref a_z), (2, .int p2)]) hx hb (dq dt_X5_reckon 61 rfl) hl (k := 2) rfl ev22.symm (by decide) rfl (fun ls hl => ?_)
                    refine lv_goto (tgt := 99) hx hb (dq dt_X5_reckon 62 rfl) (by decide) ?_
                    exact ih14 v22 g19 g20 hF _ _ _ hw (lv_sub hl [1, 2, 0] rfl)
              exact L14 _ (0 : Int32) h8 h4 hF _ _ _ hw (lv_sub hl [1, 2, 0] rfl)
            refine lv_icmp_gt (tgt := 96) hx hb (dq dt_X5_reckon 27 rfl) (by decide) (fun c23 => ?_) (fun c23 => ?_)
            · replace hF := if_t c23 hF
              exact J10 hF _ _ _ hw (lv_sub hl [0, 2] rfl)
            · replace hF := if_f c23 hF
              refine lv_iload hx hb (dq dt_X5_reckon 28 rfl) (lv_at hl 3 rfl) ?_
              refine lv_bipush (v := (18 : Int32)) hx hb (dq dt_X5_reckon 29 rfl) (by decide) ?_
              refine lv_icmp_gt (tgt := 96) hx hb (dq dt_X5_reckon 30 rfl) (by decide) (fun c24 => ?_) (fun c24 => ?_)
              · replace hF := if_t c24 hF
                exact J10 hF _ _ _ hw (lv_sub hl [0, 2] rfl)
              · replace hF := if_f c24 hF
                refine lv_aload_n hx hb (dq dt_X5_reckon 31 rfl) rfl (lv_at hl 0 rfl) ?_
                refine lv_dup hx hb (dq dt_X5_reckon 32 rfl) rfl ?_
                refine kGet (ci := 5) C in_X5 hw 0 rfl rfl 1 (by decide) (C.2.2.2.2.2.2.1 _ q1_232) rfl rfl (dq dt_X5_reckon 33 rfl) ?_
                refine lv_iload_n hx hb (dq dt_X5_reckon 34 rfl) rfl (lv_at hl 1 rfl) ?_
                refine lv_iconst (v := (-1 : Int32)) hx hb (dq dt_X5_reckon 35 rfl) (by decide) ?_
                obtain ⟨K26, hK26, hF⟩ := zj1_ hF
                have J26 : ∀ (y25 : Int64), K26 y25 = some (z_above', z_below', z_ways') → ∀ (H : Heap) (locs : List Loc) (ls : Array Slot), kW D A s.heap [(a_z, .inr (5, [.ref a_z_ways, .long h8, .long h4])), (a_z_ways, .inl (cJ, 19, .inr (.inl g1)))] H locs → lv_has ls 5 [(0, .ref a_z), (1, .int p1), (2, .int p2), (4, .int x7)] → W p l e rm_X5_reckon s m args below meth c H locs 0 0 Q (F0 m 86 ls [.long y25, .long h8, .ref a_z]) := by
                  intro y25 hF H locs ls hw hl
                  replace hF := hK26 y25 hF
                  refine lv_ladd hx hb (dq dt_X5_reckon 46 rfl) ?_
                  obtain ⟨v27, ev27, hF⟩ := bd_ hF
                  refine kNmL ev27 ?_
                  refine kPut (ci := 5) (ws' := [(a_z, .inr (5, [.ref a_z_ways, .long v27, .long h4])), (a_z_ways, .inl (cJ, 19, .inr (.inl g1)))]) C in_X5 tyX5 tyX5_ok nmX5 hw 0 rfl rfl 1 (by decide) (C.2.2.2.2.2.2.1 _ q1_232) rfl rfl rfl rfl (Nat.le_of_ble_eq_true rfl) rfl (dq dt_X5_reckon 47 rfl) (fun H locs hw => ?_)
                  obtain ⟨v28, ev28, hF⟩ := bd_ hF
                  refine lv_iinc (v := v28) (lv' := [(4, .int v28), (0, .ref a_z), (1, .int p1), (2, .int p2)]) hx hb (dq dt_X5_reckon 48 rfl) hl (k := 3) rfl ev28.symm (by decide) rfl (fun ls hl => ?_)
                  refine lv_goto (tgt := 46) hx hb (dq dt_X5_reckon 49 rfl) (by decide) ?_
                  exact ih9 v28 v27 hF _ _ _ hw (lv_sub hl [1, 2, 3, 0] rfl)
                refine lv_icmp_eq (tgt := 85) hx hb (dq dt_X5_reckon 36 rfl) (by decide) (fun c29 => ?_) (fun c29 => ?_)
                · replace hF := if_t c29 hF
                  refine lv_lconst (v := (0 : Int64)) hx hb (dq dt_X5_reckon 45 rfl) (by decide) ?_
                  exact J26 (0 : Int64) hF _ _ _ hw (lv_sub hl [0, 1, 2, 3] rfl)
                · replace hF := if_f c29 hF
                  refine lv_iload hx hb (dq dt_X5_reckon 37 rfl) (lv_at hl 3 rfl) ?_
                  refine lv_iload_n hx hb (dq dt_X5_reckon 38 rfl) rfl (lv_at hl 1 rfl) ?_
                  refine lv_icmp_lt (tgt := 85) hx hb (dq dt_X5_reckon 39 rfl) (by decide) (fun c30 => ?_) (fun c30 => ?_)
                  · replace hF := if_t c30 hF
                    refine lv_lconst (v := (0 : Int64)) hx hb (dq dt_X5_reckon 45 rfl) (by decide) ?_
                    exact J26 (0 : Int64) hF _ _ _ hw (lv_sub hl [0, 1, 2, 3] rfl)
                  · replace hF := if_f c30 hF
                    refine lv_aload_n hx hb (dq dt_X5_reckon 40 rfl) rfl (lv_at hl 0 rfl) ?_
                    refine kGet (ci := 5) C in_X5 hw 0 rfl rfl 0 (by decide) (C.2.2.2.2.2.2.1 _ q1_231) rfl rfl (dq dt_X5_reckon 41 rfl) ?_
                    refine lv_iload hx hb (dq dt_X5_reckon 42 rfl) (lv_at hl 3 rfl) ?_
                    obtain ⟨v31, ev31, hi32, hF⟩ := rd_ hF
                    refine kLald C hw 1 2 rfl rfl hi32 ev31 (dq dt_X5_reckon 43 rfl) ?_
                    refine lv_goto (tgt := 86) hx hb (dq dt_X5_reckon 44 rfl) (by decide) ?_
                    exact J26 v31 hF _ _ _ hw (lv_sub hl [0, 1, 2, 3] rfl)
        exact L9 _ (0 : Int32) (0 : Int64) hF _ _ _ hw (lv_sub hl [1, 2, 3, 0] rfl)
      · replace hF := if_f c6 hF
        refine lv_aload_n hx hb (dq dt_X5_reckon 15 rfl) rfl (lv_at hl 0 rfl) ?_
        refine lv_dup hx hb (dq dt_X5_reckon 16 rfl) rfl ?_
        refine kGet (ci := 5) C in_X5 hw 0 rfl rfl 2 (by decide) (C.2.2.2.2.2.2.1 _ q1_234) rfl rfl (dq dt_X5_reckon 17 rfl) ?_
        refine lv_ldc2 (v := (10 : Int64)) hx hb C.2.2.2.2.2.1 (C.2.2.2.2.2.2.1 _ q4_33) (dq dt_X5_reckon 18 rfl) ?_
        refine lv_lmul hx hb (dq dt_X5_reckon 19 rfl) ?_
        obtain ⟨v33, ev33, hF⟩ := bd_ hF
        refine kNmL ev33 ?_
        refine kPut (ci := 5) (ws' := [(a_z, .inr (5, [.ref a_z_ways, .long (0 : Int64), .long v33])), (a_z_ways, .inl (cJ, 19, .inr (.inl g1)))]) C in_X5 tyX5 tyX5_ok nmX5 hw 0 rfl rfl 2 (by decide) (C.2.2.2.2.2.2.1 _ q1_234) rfl rfl rfl rfl (Nat.le_of_ble_eq_true rfl) rfl (dq dt_X5_reckon 20 rfl) (fun H locs hw => ?_)
        obtain ⟨v34, ev34, hF⟩ := bd_ hF
        refine lv_iinc (v := v34) (lv' := [(4, .int v34), (0, .ref a_z), (1, .int p1), (2, .int p2)]) hx hb (dq dt_X5_reckon 21 rfl) hl (k := 3) rfl ev34.symm (by decide) rfl (fun ls hl => ?_)
        refine lv_goto (tgt := 19) hx hb (dq dt_X5_reckon 22 rfl) (by decide) ?_
        exact ih5 v34 v33 hF _ _ _ hw (lv_sub hl [1, 2, 3, 0] rfl)
  exact L5 _ (0 : Int32) (1 : Int64) hF _ _ _ hw (lv_sub hl [1, 2, 3, 0] rfl)
def F_X8_storms (t_seeps : Int32) (t_growth : Nat → Int32) (n_filled : Int32) (n_size : Nat → Int32) (z_above : Int64) (z_below : Int64) (z_ways : Nat → Int64) (p1 : Int32) (p2 : Int32) (p3 : Int32) (p4 : Int32) : Option (Int64 × Int64 × Int64 × (Nat → Int64)) :=
  zc1 (F_X7_hasSeep t_seeps p1) (fun v1 => if v1 = 0 then (some ((-2 : Int64), z_above, z_below, z_ways)) else (zc1 (F_X8_isWithin p2 (0 : Int32) (18 : Int32)) (fun v4 => if v4 = 0 then (some ((-3 : Int64), z_above, z_below, z_ways)) else (zc1 (F_X8_isWithin p3 (0 : Int32) (10 : Int32)) (fun v7 => if v7 = 0 then (some ((-3 : Int64), z_above, z_below, z_ways)) else (zc1 (F_X8_isWithin p4 (0 : Int32) (1 : Int32)) (fun v10 => if v10 = 0 then (some ((-3 : Int64), z_above, z_below, z_ways)) else (zc1 (F_X3_isFilled n_filled p1) (fun v13 => if v13 = 0 then (rd 6 n_size p1 (fun v16 => rd 6 t_growth p1 (fun v18 => zc1 (F_X8_growthsToBreak v16 v18) (fun v20 => zc3 (F_X5_reckon z_above z_below z_ways v20 p2 p3) (fun g22 g23 g24 => if p4 = 0 then (some (g22, g22, g23, g24)) else (some (g23, g22, g23, g24))))))) else (some ((-4 : Int64), z_above, z_below, z_ways)))))))))))
abbrev rm_X8_storms : Room := { frames := 3, cells := 0, slots := 0, locals := 72 }
theorem kd_X8_storms : yX8_storms.cls = RX8 ∧ yX8_storms.cls ≠ "java/lang/invoke/MethodHandle" ∧ yX8_storms.cls ≠ "java/lang/invoke/VarHandle" ∧ (parseMethodDescriptor yX8_storms.desc).map (fun d => d.parameters.length) = some 4 := by decide +kernel
set_option maxRecDepth 100000 in
set_option maxHeartbeats 4000000 in
theorem A_X8_storms (l : Launch) (D : va_G) (cB cI cJ cZ : ClassId) (ad : (Nat → Nat) × (Nat → Nat)) (a_d a_x a_t a_g a_r a_n a_k a_j a_f a_e a_z a_c a_t_tides a_t_seepYard a_t_seepSize a_t_growth a_t_level a_t_kind a_t_childYard a_t_pace a_t_ear a_n_size a_n_yard a_n_oranges a_z_ways : Nat) (d_keptBits : Int32) (t_yards : Int32) (t_seeps : Int32) (t_children : Int32) (t_growth : Nat → Int32) (n_hours : Int32) (n_filled : Int32) (n_toLesser : Int32) (n_size : Nat → Int32) (z_above : Int64) (z_below : Int64) (z_ways : Nat → Int64) (p1 : Int32) (p2 : Int32) (p3 : Int32) (p4 : Int32) (r : Int64) (z_above' : Int64) (z_below' : Int64) (z_ways' : Nat → Int64) (hF : F_X8_storms t_seeps t_growth n_filled n_size z_above z_below z_ways p1 p2 p3 p4 = some (r, z_above', z_below', z_ways')) : kM l yX8_storms (Cond.code yX8_storms cX8_storms 5 (some .long) :: W0) rm_X8_storms D (kT cB cI cJ cZ) ad [.ref a_d, .int p1, .int p2, .int p3, .int p4] [(a_d, .inr (8, [.ref a_x, .ref a_t, .ref a_g, .ref a_r, .ref a_n, .ref a_k, .ref a_j, .int d_keptBits, .ref a_f, .ref a_e, .ref a_z, .ref a_c])), (a_t, .inr (7, [.int t_yards, .ref a_t_tides, .int t_seeps, .ref a_t_seepYard, .ref a_t_seepSize, .ref a_t_growth, .ref a_t_level, .int t_children, .ref a_t_kind, .ref a_t_childYard, .ref a_t_pace, .ref a_t_ear])), (a_t_growth, .inl (cI, 6, .inl t_growth)), (a_n, .inr (3, [.ref a_t, .int n_hours, .int n_filled, .ref a_n_size, .ref a_n_yard, .int n_toLesser, .ref a_n_oranges])), (a_n_size, .inl (cI, 6, .inl n_size)), (a_z, .inr (5, [.ref a_z_ways, .long z_above, .long z_below])), (a_z_ways, .inl (cJ, 19, .inr (.inl z_ways)))] (some (.long r)) [(a_d, .inr (8, [.ref a_x, .ref a_t, .ref a_g, .ref a_r, .ref a_n, .ref a_k, .ref a_j, .int d_keptBits, .ref a_f, .ref a_e, .ref a_z, .ref a_c])), (a_t, .inr (7, [.int t_yards, .ref a_t_tides, .int t_seeps, .ref a_t_seepYard, .ref a_t_seepSize, .ref a_t_growth, .ref a_t_level, .int t_children, .ref a_t_kind, .ref a_t_childYard, .ref a_t_pace, .ref a_t_ear])), (a_t_growth, .inl (cI, 6, .inl t_growth)), (a_n, .inr (3, [.ref a_t, .int n_hours, .int n_filled, .ref a_n_size, .ref a_n_yard, .int n_toLesser, .ref a_n_oranges])), (a_n_size, .inl (cI, 6, .inl n_size)), (a_z, .inr (5, [.ref a_z_ways, .long (z_above'), .long (z_below')])), (a_z_ways, .inl (cJ, 19, .inr (.inl (z_ways'))))] := by
  unfold F_X8_storms at hF
  refine kStart (lv := [(0, .ref a_d), (1, .int p1), (2, .int p2), (3, .int p3), (4, .int p4)]) (own := "DikeWatch") (plainFor_of_name (by decide)) rfl (Nat.le_of_ble_eq_true rfl) rfl ?_
  intro p e s m args below meth c A Q ls hQ C hx hb hw hl
  refine lv_aload_n hx hb (dq dt_X8_storms 0 rfl) rfl (lv_at hl 0 rfl) ?_
  refine kGet (ci := 8) C in_X8 hw 0 rfl rfl 1 (by decide) (C.2.2.2.2.2.2.1 _ q2_23) rfl rfl (dq dt_X8_storms 1 rfl) ?_
  refine lv_iload_n hx hb (dq dt_X8_storms 2 rfl) rfl (lv_at hl 1 rfl) ?_
  obtain ⟨v1, hr2, hF⟩ := zc1_ hF
  refine kCallVR C hw (A_X7_hasSeep l D cB cI cJ cZ ad a_t a_t_tides a_t_seepYard a_t_seepSize a_t_growth a_t_level a_t_kind a_t_childYard a_t_pace a_t_ear t_yards t_seeps t_children p1 v1 hr2) (cwV 1 C.2.2.2.2.2.2.1 (w0_V0 q3_11 q3_8 q3_9 q3_10 q1_3) rfl rfl rfl kd_X7_hasSeep ⟨Nat.le_of_ble_eq_true rfl, Nat.le_of_ble_eq_true rfl⟩) [1] rfl rfl 1 7 rfl rfl hl.1 rfl rfl rfl (Nat.le_of_ble_eq_true rfl) ⟨Nat.le_of_ble_eq_true rfl, Nat.le_of_ble_eq_true rfl⟩ (dq dt_X8_storms 3 rfl) (fun H locs hw => ?_)
  refine lv_if_ne (tgt := 15) hx hb (dq dt_X8_storms 4 rfl) (by decide) (fun c3 => ?_) (fun c3 => ?_)
  · replace hF := if_f c3 hF
    refine lv_iload_n hx hb (dq dt_X8_storms 7 rfl) rfl (lv_at hl 2 rfl) ?_
    refine lv_iconst (v := (0 : Int32)) hx hb (dq dt_X8_storms 8 rfl) (by decide) ?_
    refine lv_bipush (v := (18 : Int32)) hx hb (dq dt_X8_storms 9 rfl) (by decide) ?_
    obtain ⟨v4, hr5, hF⟩ := zc1_ hF
    refine kCallSP C hw (A_X8_isWithin l D cB cI cJ cZ ad p2 (0 : Int32) (18 : Int32) v4 hr5) (va_cwS 3 C.2.2.2.2.2.2.1 (w0_S0 q2_65 q2_63 q2_64 q1_1) rfl rfl rfl ke_X8_isWithin ⟨Nat.le_of_ble_eq_true rfl, Nat.le_of_ble_eq_true rfl⟩) hl.1 rfl rfl rfl (Nat.le_of_ble_eq_true rfl) ⟨Nat.le_of_ble_eq_true rfl, Nat.le_of_ble_eq_true rfl⟩ (dq dt_X8_storms 10 rfl) (fun H locs hw => ?_)
    refine lv_if_eq (tgt := 45) hx hb (dq dt_X8_storms 11 rfl) (by decide) (fun c6 => ?_) (fun c6 => ?_)
    · replace hF := if_t c6 hF
      refine lv_ldc2 (v := (-3 : Int64)) hx hb C.2.2.2.2.2.1 (C.2.2.2.2.2.2.1 _ q4_17) (dq dt_X8_storms 22 rfl) ?_
      cases hF
      exact kRetL hQ C hw (dq dt_X8_storms 23 rfl)
    · replace hF := if_f c6 hF
      refine lv_iload_n hx hb (dq dt_X8_storms 12 rfl) rfl (lv_at hl 3 rfl) ?_
      refine lv_iconst (v := (0 : Int32)) hx hb (dq dt_X8_storms 13 rfl) (by decide) ?_
      refine lv_bipush (v := (10 : Int32)) hx hb (dq dt_X8_storms 14 rfl) (by decide) ?_
      obtain ⟨v7, hr8, hF⟩ := zc1_ hF
      refine kCallSP C hw (A_X8_isWithin l D cB cI cJ cZ ad p3 (0 : Int32) (10 : Int32) v7 hr8) (va_cwS 3 C.2.2.2.2.2.2.1 (w0_S0 q2_65 q2_63 q2_64 q1_1) rfl rfl rfl ke_X8_isWithin ⟨Nat.le_of_ble_eq_true rfl, Nat.le_of_ble_eq_true rfl⟩) hl.1 rfl rfl rfl (Nat.le_of_ble_eq_true rfl) ⟨Nat.le_of_ble_eq_true rfl, Nat.le_of_ble_eq_true rfl⟩ (dq dt_X8_storms 15 rfl) (fun H locs hw => ?_)
      refine lv_if_eq (tgt := 45) hx hb (dq dt_X8_storms 16 rfl) (by decide) (fun c9 => ?_) (fun c9 => ?_)
      · replace hF := if_t c9 hF
        refine lv_ldc2 (v := (-3 : Int64)) hx hb C.2.2.2.2.2.1 (C.2.2.2.2.2.2.1 _ q4_17) (dq dt_X8_storms 22 rfl) ?_
        cases hF
        exact kRetL hQ C hw (dq dt_X8_storms 23 rfl)
      · replace hF := if_f c9 hF
        refine lv_iload hx hb (dq dt_X8_storms 17 rfl) (lv_at hl 4 rfl) ?_
        refine lv_iconst (v := (0 : Int32)) hx hb (dq dt_X8_storms 18 rfl) (by decide) ?_
        refine lv_iconst (v := (1 : Int32)) hx hb (dq dt_X8_storms 19 rfl) (by decide) ?_
        obtain ⟨v10, hr11, hF⟩ := zc1_ hF
        refine kCallSP C hw (A_X8_isWithin l D cB cI cJ cZ ad p4 (0 : Int32) (1 : Int32) v10 hr11) (va_cwS 3 C.2.2.2.2.2.2.1 (w0_S0 q2_65 q2_63 q2_64 q1_1) rfl rfl rfl ke_X8_isWithin ⟨Nat.le_of_ble_eq_true rfl, Nat.le_of_ble_eq_true rfl⟩) hl.1 rfl rfl rfl (Nat.le_of_ble_eq_true rfl) ⟨Nat.le_of_ble_eq_true rfl, Nat.le_of_ble_eq_true rfl⟩ (dq dt_X8_storms 20 rfl) (fun H locs hw => ?_)
        refine lv_if_ne (tgt := 49) hx hb (dq dt_X8_storms 21 rfl) (by decide) (fun c12 => ?_) (fun c12 => ?_)
        · replace hF := if_f c12 hF
          refine lv_aload_n hx hb (dq dt_X8_storms 24 rfl) rfl (lv_at hl 0 rfl) ?_
          refine kGet (ci := 8) C in_X8 hw 0 rfl rfl 4 (by decide) (C.2.2.2.2.2.2.1 _ q2_26) rfl rfl (dq dt_X8_storms 25 rfl) ?_
          refine lv_iload_n hx hb (dq dt_X8_storms 26 rfl) rfl (lv_at hl 1 rfl) ?_
          obtain ⟨v13, hr14, hF⟩ := zc1_ hF
          refine kCallVR C hw (A_X3_isFilled l D cB cI cJ cZ ad a_n a_t a_n_size a_n_yard a_n_oranges n_hours n_filled n_toLesser p1 v13 hr14) (cwV 1 C.2.2.2.2.2.2.1 (w0_V0 q3_15 q3_12 q3_13 q3_14 q1_4) rfl rfl rfl kd_X3_isFilled ⟨Nat.le_of_ble_eq_true rfl, Nat.le_of_ble_eq_true rfl⟩) [3] rfl rfl 3 3 rfl rfl hl.1 rfl rfl rfl (Nat.le_of_ble_eq_true rfl) ⟨Nat.le_of_ble_eq_true rfl, Nat.le_of_ble_eq_true rfl⟩ (dq dt_X8_storms 27 rfl) (fun H locs hw => ?_)
          refine lv_if_eq (tgt := 64) hx hb (dq dt_X8_storms 28 rfl) (by decide) (fun c15 => ?_) (fun c15 => ?_)
          · replace hF := if_t c15 hF
            refine lv_aload_n hx hb (dq dt_X8_storms 31 rfl) rfl (lv_at hl 0 rfl) ?_
            refine kGet (ci := 8) C in_X8 hw 0 rfl rfl 10 (by decide) (C.2.2.2.2.2.2.1 _ q2_32) rfl rfl (dq dt_X8_storms 32 rfl) ?_
            refine lv_aload_n hx hb (dq dt_X8_storms 33 rfl) rfl (lv_at hl 0 rfl) ?_
            refine kGet (ci := 8) C in_X8 hw 0 rfl rfl 4 (by decide) (C.2.2.2.2.2.2.1 _ q2_26) rfl rfl (dq dt_X8_storms 34 rfl) ?_
            refine kGet (ci := 3) C in_X3 hw 3 rfl rfl 3 (by decide) (C.2.2.2.2.2.2.1 _ q1_127) rfl rfl (dq dt_X8_storms 35 rfl) ?_
            refine lv_iload_n hx hb (dq dt_X8_storms 36 rfl) rfl (lv_at hl 1 rfl) ?_
            obtain ⟨v16, ev16, hi17, hF⟩ := rd_ hF
            refine kIald C hw 4 1 rfl rfl hi17 ev16 (dq dt_X8_storms 37 rfl) ?_
            refine lv_aload_n hx hb (dq dt_X8_storms 38 rfl) rfl (lv_at hl 0 rfl) ?_
            refine kGet (ci := 8) C in_X8 hw 0 rfl rfl 1 (by decide) (C.2.2.2.2.2.2.1 _ q2_23) rfl rfl (dq dt_X8_storms 39 rfl) ?_
            refine kGet (ci := 7) C in_X7 hw 1 rfl rfl 5 (by decide) (C.2.2.2.2.2.2.1 _ q1_69) rfl rfl (dq dt_X8_storms 40 rfl) ?_
            refine lv_iload_n hx hb (dq dt_X8_storms 41 rfl) rfl (lv_at hl 1 rfl) ?_
            obtain ⟨v18, ev18, hi19, hF⟩ := rd_ hF
            refine kIald C hw 2 1 rfl rfl hi19 ev18 (dq dt_X8_storms 42 rfl) ?_
            obtain ⟨v20, hr21, hF⟩ := zc1_ hF
            refine kCallSP C hw (A_X8_growthsToBreak l D cB cI cJ cZ ad v16 v18 v20 hr21) (va_cwS 2 C.2.2.2.2.2.2.1 (w0_S0 q4_21 q4_19 q4_20 q1_1) rfl rfl rfl ke_X8_growthsToBreak ⟨Nat.le_of_ble_eq_true rfl, Nat.le_of_ble_eq_true rfl⟩) hl.1 rfl rfl rfl (Nat.le_of_ble_eq_true rfl) ⟨Nat.le_of_ble_eq_true rfl, Nat.le_of_ble_eq_true rfl⟩ (dq dt_X8_storms 43 rfl) (fun H locs hw => ?_)
            refine lv_iload_n hx hb (dq dt_X8_storms 44 rfl) rfl (lv_at hl 2 rfl) ?_
            refine lv_iload_n hx hb (dq dt_X8_storms 45 rfl) rfl (lv_at hl 3 rfl) ?_
            obtain ⟨g22, g23, g24, hr25, hF⟩ := zc3_ hF
            refine kCallV (ws2 := [(a_d, .inr (8, [.ref a_x, .ref a_t, .ref a_g, .ref a_r, .ref a_n, .ref a_k, .ref a_j, .int d_keptBits, .ref a_f, .ref a_e, .ref a_z, .ref a_c])), (a_t, .inr (7, [.int t_yards, .ref a_t_tides, .int t_seeps, .ref a_t_seepYard, .ref a_t_seepSize, .ref a_t_growth, .ref a_t_level, .int t_children, .ref a_t_kind, .ref a_t_childYard, .ref a_t_pace, .ref a_t_ear])), (a_t_growth, .inl (cI, 6, .inl t_growth)), (a_n, .inr (3, [.ref a_t, .int n_hours, .int n_filled, .ref a_n_size, .ref a_n_yard, .int n_toLesser, .ref a_n_oranges])), (a_n_size, .inl (cI, 6, .inl n_size)), (a_z, .inr (5, [.ref a_z_ways, .long g22, .long g23])), (a_z_ways, .inl (cJ, 19, .inr (.inl g24)))]) C hw (A_X5_reckon l D cB cI cJ cZ ad a_z a_z_ways z_above z_below z_ways v20 p2 p3 g22 g23 g24 hr25) (cwV 3 C.2.2.2.2.2.2.1 (w0_V0 q4_25 q4_22 q4_23 q4_24 q1_8) rfl rfl rfl kd_X5_reckon ⟨Nat.le_of_ble_eq_true rfl, Nat.le_of_ble_eq_true rfl⟩) [5, 6] rfl rfl rfl rfl 5 5 rfl rfl hl.1 rfl rfl rfl (Nat.le_of_ble_eq_true rfl) ⟨Nat.le_of_ble_eq_true rfl, Nat.le_of_ble_eq_true rfl⟩ (dq dt_X8_storms 46 rfl) (fun H locs hw => ?_)
            refine lv_iload hx hb (dq dt_X8_storms 47 rfl) (lv_at hl 4 rfl) ?_
            refine lv_if_ne (tgt := 109) hx hb (dq dt_X8_storms 48 rfl) (by decide) (fun c26 => ?_) (fun c26 => ?_)
            · replace hF := if_f c26 hF
              refine lv_aload_n hx hb (dq dt_X8_storms 53 rfl) rfl (lv_at hl 0 rfl) ?_
              refine kGet (ci := 8) C in_X8 hw 0 rfl rfl 10 (by decide) (C.2.2.2.2.2.2.1 _ q2_32) rfl rfl (dq dt_X8_storms 54 rfl) ?_
              refine kGet (ci := 5) C in_X5 hw 5 rfl rfl 2 (by decide) (C.2.2.2.2.2.2.1 _ q1_235) rfl rfl (dq dt_X8_storms 55 rfl) ?_
              cases hF
              exact kRetL hQ C hw (dq dt_X8_storms 56 rfl)
            · replace hF := if_t c26 hF
              refine lv_aload_n hx hb (dq dt_X8_storms 49 rfl) rfl (lv_at hl 0 rfl) ?_
              refine kGet (ci := 8) C in_X8 hw 0 rfl rfl 10 (by decide) (C.2.2.2.2.2.2.1 _ q2_32) rfl rfl (dq dt_X8_storms 50 rfl) ?_
              refine kGet (ci := 5) C in_X5 hw 5 rfl rfl 1 (by decide) (C.2.2.2.2.2.2.1 _ q1_233) rfl rfl (dq dt_X8_storms 51 rfl) ?_
              refine lv_goto (tgt := 116) hx hb (dq dt_X8_storms 52 rfl) (by decide) ?_
              cases hF
              exact kRetL hQ C hw (dq dt_X8_storms 56 rfl)
          · replace hF := if_f c15 hF
            refine lv_ldc2 (v := (-4 : Int64)) hx hb C.2.2.2.2.2.1 (C.2.2.2.2.2.2.1 _ q4_18) (dq dt_X8_storms 29 rfl) ?_
            cases hF
            exact kRetL hQ C hw (dq dt_X8_storms 30 rfl)
        · replace hF := if_t c12 hF
          refine lv_ldc2 (v := (-3 : Int64)) hx hb C.2.2.2.2.2.1 (C.2.2.2.2.2.2.1 _ q4_17) (dq dt_X8_storms 22 rfl) ?_
          cases hF
          exact kRetL hQ C hw (dq dt_X8_storms 23 rfl)
  · replace hF := if_t c3 hF
    refine lv_ldc2 (v := (-2 : Int64)) hx hb C.2.2.2.2.2.1 (C.2.2.2.2.2.2.1 _ q4_16) (dq dt_X8_storms 5 rfl) ?_
    cases hF
    exact kRetL hQ C hw (dq dt_X8_storms 6 rfl)
def F_X8_guard (t_yards : Int32) (t_seeps : Int32) (t_seepYard : Nat → Int32) (n_filled : Int32) (p1 : Int32) (p2 : Int32) : Option (Int32) :=
  zc1 (F_X8_isWithin p1 (0 : Int32) (9 : Int32)) (fun v1 => if v1 = 0 then (some (-3 : Int32)) else (zc1 (F_X8_isWithin p2 (0 : Int32) (1 : Int32)) (fun v4 => if v4 = 0 then (some (-3 : Int32)) else (zc1 (F_X3_heardFrom t_seeps t_seepYard n_filled (0 : Int32) p1) (fun v7 => zl3 (fun x9 x10 x11 ag12 => if t_yards ≤ x11 then (if p2 = 0 then (some x9) else (some x10)) else (zc1 (F_X3_heardFrom t_seeps t_seepYard n_filled x11 p1) (fun v15 => zc1 (F_J6_bitCount_0f7a4 v15) (fun v17 => zc1 (F_J6_bitCount_0f7a4 x10) (fun v19 => if v17 ≤ v19 then (bd (x11 + (1 : Int32)) (fun v22 => ag12 x9 x10 v22)) else (bd (x11 + (1 : Int32)) (fun v23 => ag12 x11 v15 v23))))))) FU (0 : Int32) v7 (1 : Int32))))))
abbrev rm_X8_guard : Room := { frames := 3, cells := 0, slots := 0, locals := 86 }
theorem kd_X8_guard : yX8_guard.cls = RX8 ∧ yX8_guard.cls ≠ "java/lang/invoke/MethodHandle" ∧ yX8_guard.cls ≠ "java/lang/invoke/VarHandle" ∧ (parseMethodDescriptor yX8_guard.desc).map (fun d => d.parameters.length) = some 2 := by decide +kernel
set_option maxRecDepth 100000 in
set_option maxHeartbeats 4000000 in
theorem A_X8_guard (l : Launch) (D : va_G) (cB cI cJ cZ : ClassId) (ad : (Nat → Nat) × (Nat → Nat)) (a_d a_x a_t a_g a_r a_n a_k a_j a_f a_e a_z a_c a_t_tides a_t_seepYard a_t_seepSize a_t_growth a_t_level a_t_kind a_t_childYard a_t_pace a_t_ear a_n_size a_n_yard a_n_oranges : Nat) (d_keptBits : Int32) (t_yards : Int32) (t_seeps : Int32) (t_children : Int32) (t_seepYard : Nat → Int32) (n_hours : Int32) (n_filled : Int32) (n_toLesser : Int32) (p1 : Int32) (p2 : Int32) (r : Int32) (hF : F_X8_guard t_yards t_seeps t_seepYard n_filled p1 p2 = some r) : kM l yX8_guard (Cond.code yX8_guard cX8_guard 7 (some .int) :: W0) rm_X8_guard D (kT cB cI cJ cZ) ad [.ref a_d, .int p1, .int p2] [(a_d, .inr (8, [.ref a_x, .ref a_t, .ref a_g, .ref a_r, .ref a_n, .ref a_k, .ref a_j, .int d_keptBits, .ref a_f, .ref a_e, .ref a_z, .ref a_c])), (a_t, .inr (7, [.int t_yards, .ref a_t_tides, .int t_seeps, .ref a_t_seepYard, .ref a_t_seepSize, .ref a_t_growth, .ref a_t_level, .int t_children, .ref a_t_kind, .ref a_t_childYard, .ref a_t_pace, .ref a_t_ear])), (a_t_seepYard, .inl (cI, 6, .inl t_seepYard)), (a_n, .inr (3, [.ref a_t, .int n_hours, .int n_filled, .ref a_n_size, .ref a_n_yard, .int n_toLesser, .ref a_n_oranges]))] (some (.int r)) [(a_d, .inr (8, [.ref a_x, .ref a_t, .ref a_g, .ref a_r, .ref a_n, .ref a_k, .ref a_j, .int d_keptBits, .ref a_f, .ref a_e, .ref a_z, .ref a_c])), (a_t, .inr (7, [.int t_yards, .ref a_t_tides, .int t_seeps, .ref a_t_seepYard, .ref a_t_seepSize, .ref a_t_growth, .ref a_t_level, .int t_children, .ref a_t_kind, .ref a_t_childYard, .ref a_t_pace, .ref a_t_ear])), (a_t_seepYard, .inl (cI, 6, .inl t_seepYard)), (a_n, .inr (3, [.ref a_t, .int n_hours, .int n_filled, .ref a_n_size, .ref a_n_yard, .int n_toLesser, .ref a_n_oranges]))] := by
  unfold F_X8_guard at hF
  refine kStart (lv := [(0, .ref a_d), (1, .int p1), (2, .int p2)]) (own := "DikeWatch") (plainFor_of_name (by decide)) rfl (Nat.le_of_ble_eq_true rfl) rfl ?_
  intro p e s m args below meth c A Q ls hQ C hx hb hw hl
  refine lv_iload_n hx hb (dq dt_X8_guard 0 rfl) rfl (lv_at hl 1 rfl) ?_
  refine lv_iconst (v := (0 : Int32)) hx hb (dq dt_X8_guard 1 rfl) (by decide) ?_
  refine lv_bipush (v := (9 : Int32)) hx hb (dq dt_X8_guard 2 rfl) (by decide) ?_
  obtain ⟨v1, hr2, hF⟩ := zc1_ hF
  refine kCallSP C hw (A_X8_isWithin l D cB cI cJ cZ ad p1 (0 : Int32) (9 : Int32) v1 hr2) (va_cwS 3 C.2.2.2.2.2.2.1 (w0_S0 q2_65 q2_63 q2_64 q1_1) rfl rfl rfl ke_X8_isWithin ⟨Nat.le_of_ble_eq_true rfl, Nat.le_of_ble_eq_true rfl⟩) hl.1 rfl rfl rfl (Nat.le_of_ble_eq_true rfl) ⟨Nat.le_of_ble_eq_true rfl, Nat.le_of_ble_eq_true rfl⟩ (dq dt_X8_guard 3 rfl) (fun H locs hw => ?_)
  refine lv_if_eq (tgt := 19) hx hb (dq dt_X8_guard 4 rfl) (by decide) (fun c3 => ?_) (fun c3 => ?_)
  · replace hF := if_t c3 hF
    refine lv_bipush (v := (-3 : Int32)) hx hb (dq dt_X8_guard 10 rfl) (by decide) ?_
    cases hF
    exact kRetI hQ C hw (dq dt_X8_guard 11 rfl)
  · replace hF := if_f c3 hF
    refine lv_iload_n hx hb (dq dt_X8_guard 5 rfl) rfl (lv_at hl 2 rfl) ?_
    refine lv_iconst (v := (0 : Int32)) hx hb (dq dt_X8_guard 6 rfl) (by decide) ?_
    refine lv_iconst (v := (1 : Int32)) hx hb (dq dt_X8_guard 7 rfl) (by decide) ?_
    obtain ⟨v4, hr5, hF⟩ := zc1_ hF
    refine kCallSP C hw (A_X8_isWithin l D cB cI cJ cZ ad p2 (0 : Int32) (1 : Int32) v4 hr5) (va_cwS 3 C.2.2.2.2.2.2.1 (w0_S0 q2_65 q2_63 q2_64 q1_1) rfl rfl rfl ke_X8_isWithin ⟨Nat.le_of_ble_eq_true rfl, Nat.le_of_ble_eq_true rfl⟩) hl.1 rfl rfl rfl (Nat.le_of_ble_eq_true rfl) ⟨Nat.le_of_ble_eq_true rfl, Nat.le_of_ble_eq_true rfl⟩ (dq dt_X8_guard 8 rfl) (fun H locs hw => ?_)
    refine lv_if_ne (tgt := 22) hx hb (dq dt_X8_guard 9 rfl) (by decide) (fun c6 => ?_) (fun c6 => ?_)
    · replace hF := if_f c6 hF
      refine lv_iconst (v := (0 : Int32)) hx hb (dq dt_X8_guard 12 rfl) (by decide) ?_
      refine lv_istore_n (lv' := [(3, .int (0 : Int32)), (0, .ref a_d), (1, .int p1), (2, .int p2)]) hx hb (dq dt_X8_guard 13 rfl) rfl hl (by decide) rfl (fun ls hl => ?_)
      refine lv_aload_n hx hb (dq dt_X8_guard 14 rfl) rfl (lv_at hl 1 rfl) ?_
      refine kGet (ci := 8) C in_X8 hw 0 rfl rfl 4 (by decide) (C.2.2.2.2.2.2.1 _ q2_26) rfl rfl (dq dt_X8_guard 15 rfl) ?_
      refine lv_iload_n hx hb (dq dt_X8_guard 16 rfl) rfl (lv_at hl 0 rfl) ?_
      refine lv_iload_n hx hb (dq dt_X8_guard 17 rfl) rfl (lv_at hl 2 rfl) ?_
      obtain ⟨v7, hr8, hF⟩ := zc1_ hF
      refine kCallVR C hw (A_X3_heardFrom l D cB cI cJ cZ ad a_t a_t_tides a_t_seepYard a_t_seepSize a_t_growth a_t_level a_t_kind a_t_childYard a_t_pace a_t_ear a_n a_n_size a_n_yard a_n_oranges t_yards t_seeps t_children t_seepYard n_hours n_filled n_toLesser (0 : Int32) p1 v7 hr8) (cwV 2 C.2.2.2.2.2.2.1 (w0_V0 q3_50 q4_42 q3_48 q3_49 q1_4) rfl rfl rfl kd_X3_heardFrom ⟨Nat.le_of_ble_eq_true rfl, Nat.le_of_ble_eq_true rfl⟩) [1, 2, 3] rfl rfl 3 3 rfl rfl hl.1 rfl rfl rfl (Nat.le_of_ble_eq_true rfl) ⟨Nat.le_of_ble_eq_true rfl, Nat.le_of_ble_eq_true rfl⟩ (dq dt_X8_guard 18 rfl) (fun H locs hw => ?_)
      refine lv_istore (lv' := [(4, .int v7), (3, .int (0 : Int32)), (0, .ref a_d), (1, .int p1), (2, .int p2)]) hx hb (dq dt_X8_guard 19 rfl) hl (by decide) rfl (fun ls hl => ?_)
      refine lv_iconst (v := (1 : Int32)) hx hb (dq dt_X8_guard 20 rfl) (by decide) ?_
      refine lv_istore (lv' := [(5, .int (1 : Int32)), (4, .int v7), (3, .int (0 : Int32)), (0, .ref a_d), (1, .int p1), (2, .int p2)]) hx hb (dq dt_X8_guard 21 rfl) hl (by decide) rfl (fun ls hl => ?_)
      obtain ⟨K12, hK012, hK12, hF⟩ := zl3_ hF
      have L12 : ∀ (n : Nat) (x9 : Int32) (x10 : Int32) (x11 : Int32), K12 n x9 x10 x11 = some r → ∀ (H : Heap) (locs : List Loc) (ls : Array Slot), kW D A s.heap [(a_d, .inr (8, [.ref a_x, .ref a_t, .ref a_g, .ref a_r, .ref a_n, .ref a_k, .ref a_j, .int d_keptBits, .ref a_f, .ref a_e, .ref a_z, .ref a_c])), (a_t, .inr (7, [.int t_yards, .ref a_t_tides, .int t_seeps, .ref a_t_seepYard, .ref a_t_seepSize, .ref a_t_growth, .ref a_t_level, .int t_children, .ref a_t_kind, .ref a_t_childYard, .ref a_t_pace, .ref a_t_ear])), (a_t_seepYard, .inl (cI, 6, .inl t_seepYard)), (a_n, .inr (3, [.ref a_t, .int n_hours, .int n_filled, .ref a_n_size, .ref a_n_yard, .int n_toLesser, .ref a_n_oranges]))] H locs → lv_has ls 7 [(0, .ref a_d), (1, .int p1), (2, .int p2), (3, .int x9), (4, .int x10), (5, .int x11)] → W p l e rm_X8_guard s m args below meth c H locs 0 0 Q (F0 m 38 ls []) := by
        intro n
        induction n with
        | zero => intro x9 x10 x11 hF; exact (lp_no (hK012 x9 x10 x11) hF).elim
        | succ n ih12 =>
          intro x9 x10 x11 hF H locs ls hw hl
          replace hF := hK12 n x9 x10 x11 hF
          refine lv_iload hx hb (dq dt_X8_guard 22 rfl) (lv_at hl 5 rfl) ?_
          refine lv_aload_n hx hb (dq dt_X8_guard 23 rfl) rfl (lv_at hl 0 rfl) ?_
          refine kGet (ci := 8) C in_X8 hw 0 rfl rfl 1 (by decide) (C.2.2.2.2.2.2.1 _ q2_23) rfl rfl (dq dt_X8_guard 24 rfl) ?_
          refine kGet (ci := 7) C in_X7 hw 1 rfl rfl 0 (by decide) (C.2.2.2.2.2.2.1 _ q1_50) rfl rfl (dq dt_X8_guard 25 rfl) ?_
          refine lv_icmp_ge (tgt := 88) hx hb (dq dt_X8_guard 26 rfl) (by decide) (fun c13 => ?_) (fun c13 => ?_)
          · replace hF := if_t c13 hF
            refine lv_iload_n hx hb (dq dt_X8_guard 44 rfl) rfl (lv_at hl 2 rfl) ?_
            refine lv_if_ne (tgt := 96) hx hb (dq dt_X8_guard 45 rfl) (by decide) (fun c14 => ?_) (fun c14 => ?_)
            · replace hF := if_f c14 hF
              refine lv_iload hx hb (dq dt_X8_guard 48 rfl) (lv_at hl 4 rfl) ?_
              cases hF
              exact kRetI hQ C hw (dq dt_X8_guard 49 rfl)
            · replace hF := if_t c14 hF
              refine lv_iload_n hx hb (dq dt_X8_guard 46 rfl) rfl (lv_at hl 3 rfl) ?_
              refine lv_goto (tgt := 98) hx hb (dq dt_X8_guard 47 rfl) (by decide) ?_
              cases hF
              exact kRetI hQ C hw (dq dt_X8_guard 49 rfl)
          · replace hF := if_f c13 hF
            refine lv_aload_n hx hb (dq dt_X8_guard 27 rfl) rfl (lv_at hl 0 rfl) ?_
            refine kGet (ci := 8) C in_X8 hw 0 rfl rfl 4 (by decide) (C.2.2.2.2.2.2.1 _ q2_26) rfl rfl (dq dt_X8_guard 28 rfl) ?_
            refine lv_iload hx hb (dq dt_X8_guard 29 rfl) (lv_at hl 5 rfl) ?_
            refine lv_iload_n hx hb (dq dt_X8_guard 30 rfl) rfl (lv_at hl 1 rfl) ?_
            obtain ⟨v15, hr16, hF⟩ := zc1_ hF
            refine kCallVR C hw (A_X3_heardFrom l D cB cI cJ cZ ad a_t a_t_tides a_t_seepYard a_t_seepSize a_t_growth a_t_level a_t_kind a_t_childYard a_t_pace a_t_ear a_n a_n_size a_n_yard a_n_oranges t_yards t_seeps t_children t_seepYard n_hours n_filled n_toLesser x11 p1 v15 hr16) (cwV 2 C.2.2.2.2.2.2.1 (w0_V0 q3_50 q4_42 q3_48 q3_49 q1_4) rfl rfl rfl kd_X3_heardFrom ⟨Nat.le_of_ble_eq_true rfl, Nat.le_of_ble_eq_true rfl⟩) [1, 2, 3] rfl rfl 3 3 rfl rfl hl.1 rfl rfl rfl (Nat.le_of_ble_eq_true rfl) ⟨Nat.le_of_ble_eq_true rfl, Nat.le_of_ble_eq_true rfl⟩ (dq dt_X8_guard 31 rfl) (fun H locs hw => ?_)
            refine lv_istore (lv' := [(6, .int v15), (0, .ref a_d), (1, .int p1), (2, .int p2), (3, .int x9), (4, .int x10), (5, .int x11)]) hx hb (dq dt_X8_guard 32 rfl) hl (by decide) rfl (fun ls hl => ?_)
            refine lv_iload hx hb (dq dt_X8_guard 33 rfl) (lv_at hl 0 rfl) ?_
            obtain ⟨v17, hr18, hF⟩ := zc1_ hF
            refine kCallSP C hw (A_J6_bitCount_0f7a4 l D cB cI cJ cZ ad v15 v17 hr18) (va_cwS 1 C.2.2.2.2.2.2.1 (w0_S0 q3_207 q3_215 q3_206 q1_18) rfl rfl rfl ke_J6_bitCount_0f7a4 ⟨Nat.le_of_ble_eq_true rfl, Nat.le_of_ble_eq_true rfl⟩) hl.1 rfl rfl rfl (Nat.le_of_ble_eq_true rfl) ⟨Nat.le_of_ble_eq_true rfl, Nat.le_of_ble_eq_true rfl⟩ (dq dt_X8_guard 34 rfl) (fun H locs hw => ?_)
            refine lv_iload hx hb (dq dt_X8_guard 35 rfl) (lv_at hl 5 rfl) ?_
            obtain ⟨v19, hr20, hF⟩ := zc1_ hF
            refine kCallSP C hw (A_J6_bitCount_0f7a4 l D cB cI cJ cZ ad x10 v19 hr20) (va_cwS 1 C.2.2.2.2.2.2.1 (w0_S0 q3_207 q3_215 q3_206 q1_18) rfl rfl rfl ke_J6_bitCount_0f7a4 ⟨Nat.le_of_ble_eq_true rfl, Nat.le_of_ble_eq_true rfl⟩) hl.1 rfl rfl rfl (Nat.le_of_ble_eq_true rfl) ⟨Nat.le_of_ble_eq_true rfl, Nat.le_of_ble_eq_true rfl⟩ (dq dt_X8_guard 36 rfl) (fun H locs hw => ?_)
            refine lv_icmp_le (tgt := 82) hx hb (dq dt_X8_guard 37 rfl) (by decide) (fun c21 => ?_) (fun c21 => ?_)
            · replace hF := if_t c21 hF
              obtain ⟨v22, ev22, hF⟩ := bd_ hF
              refine lv_iinc (v := v22) (lv' := [(5, .int v22), (6, .int v15), (0, .ref a_d), (1, .int p1), (2, .int p2), (3, .int x9), (4, .int x10)]) hx hb (dq dt_X8_guard 42 rfl) hl (k := 6) rfl ev22.symm (by decide) rfl (fun ls hl => ?_)
              refine lv_goto (tgt := 38) hx hb (dq dt_X8_guard 43 rfl) (by decide) ?_
              exact ih12 x9 x10 v22 hF _ _ _ hw (lv_sub hl [2, 3, 4, 5, 6, 0] rfl)
            · replace hF := if_f c21 hF
              refine lv_iload hx hb (dq dt_X8_guard 38 rfl) (lv_at hl 6 rfl) ?_
              refine lv_istore_n (lv' := [(3, .int x11), (6, .int v15), (0, .ref a_d), (1, .int p1), (2, .int p2), (4, .int x10), (5, .int x11)]) hx hb (dq dt_X8_guard 39 rfl) rfl hl (by decide) rfl (fun ls hl => ?_)
              refine lv_iload hx hb (dq dt_X8_guard 40 rfl) (lv_at hl 1 rfl) ?_
              refine lv_istore (lv' := [(4, .int v15), (3, .int x11), (6, .int v15), (0, .ref a_d), (1, .int p1), (2, .int p2), (5, .int x11)]) hx hb (dq dt_X8_guard 41 rfl) hl (by decide) rfl (fun ls hl => ?_)
              obtain ⟨v23, ev23, hF⟩ := bd_ hF
              refine lv_iinc (v := v23) (lv' := [(5, .int v23), (4, .int v15), (3, .int x11), (6, .int v15), (0, .ref a_d), (1, .int p1), (2, .int p2)]) hx hb (dq dt_X8_guard 42 rfl) hl (k := 6) rfl ev23.symm (by decide) rfl (fun ls hl => ?_)
              refine lv_goto (tgt := 38) hx hb (dq dt_X8_guard 43 rfl) (by decide) ?_
              exact ih12 x11 v15 v23 hF _ _ _ hw (lv_sub hl [4, 5, 6, 2, 1, 0] rfl)
      exact L12 _ (0 : Int32) v7 (1 : Int32) hF _ _ _ hw (lv_sub hl [3, 4, 5, 2, 1, 0] rfl)
    · replace hF := if_t c6 hF
      refine lv_bipush (v := (-3 : Int32)) hx hb (dq dt_X8_guard 10 rfl) (by decide) ?_
      cases hF
      exact kRetI hQ C hw (dq dt_X8_guard 11 rfl)
def F_X0_yardsInEar (c_yards : Int32) (p1 : Int32) (p2 : Int32) : Option (Int32) :=
  zl2 (fun x1 x2 ag3 => if c_yards ≤ x2 then (some x1) else (zc1 (F_X8_reaches p2 p1 x2) (fun v5 => zj1 (fun y7 => bd (x1 ||| y7) (fun v9 => bd (x2 + (1 : Int32)) (fun v10 => ag3 v9 v10))) (fun K8 => if v5 = 0 then (K8 (0 : Int32)) else (K8 ((1 : Int32) <<< (x2 &&& 31))))))) FU (0 : Int32) (0 : Int32)
abbrev rm_X0_yardsInEar : Room := { frames := 2, cells := 0, slots := 0, locals := 62 }
theorem kd_X0_yardsInEar : yX0_yardsInEar.cls = RX0 ∧ yX0_yardsInEar.cls ≠ "java/lang/invoke/MethodHandle" ∧ yX0_yardsInEar.cls ≠ "java/lang/invoke/VarHandle" ∧ (parseMethodDescriptor yX0_yardsInEar.desc).map (fun d => d.parameters.length) = some 2 := by decide +kernel
set_option maxRecDepth 100000 in
set_option maxHeartbeats 4000000 in
theorem A_X0_yardsInEar (l : Launch) (D : va_G) (cB cI cJ cZ : ClassId) (ad : (Nat → Nat) × (Nat → Nat)) (a_c : Nat) (c_yards : Int32) (c_count : Int32) (c_possible : Int32) (p1 : Int32) (p2 : Int32) (r : Int32) (hF : F_X0_yardsInEar c_yards p1 p2 = some r) : kM l yX0_yardsInEar (Cond.code yX0_yardsInEar cX0_yardsInEar 5 (some .int) :: W0) rm_X0_yardsInEar D (kT cB cI cJ cZ) ad [.ref a_c, .int p1, .int p2] [(a_c, .inr (0, [.int c_yards, .int c_count, .int c_possible]))] (some (.int r)) [(a_c, .inr (0, [.int c_yards, .int c_count, .int c_possible]))] := by
  unfold F_X0_yardsInEar at hF
  refine kStart (lv := [(0, .ref a_c), (1, .int p1), (2, .int p2)]) (own := "DikeWatch$Clues") (plainFor_of_name (by decide)) rfl (Nat.le_of_ble_eq_true rfl) rfl ?_
  intro p e s m args below meth c A Q ls hQ C hx hb hw hl
  refine lv_iconst (v := (0 : Int32)) hx hb (dq dt_X0_yardsInEar 0 rfl) (by decide) ?_
  refine lv_istore_n (lv' := [(3, .int (0 : Int32)), (0, .ref a_c), (1, .int p1), (2, .int p2)]) hx hb (dq dt_X0_yardsInEar 1 rfl) rfl hl (by decide) rfl (fun ls hl => ?_)
  refine lv_iconst (v := (0 : Int32)) hx hb (dq dt_X0_yardsInEar 2 rfl) (by decide) ?_
  refine lv_istore (lv' := [(4, .int (0 : Int32)), (3, .int (0 : Int32)), (0, .ref a_c), (1, .int p1), (2, .int p2)]) hx hb (dq dt_X0_yardsInEar 3 rfl) hl (by decide) rfl (fun ls hl => ?_)
  obtain ⟨K3, hK03, hK3, hF⟩ := zl2_ hF
  have L3 : ∀ (n : Nat) (x1 : Int32) (x2 : Int32), K3 n x1 x2 = some r → ∀ (H : Heap) (locs : List Loc) (ls : Array Slot), kW D A s.heap [(a_c, .inr (0, [.int c_yards, .int c_count, .int c_possible]))] H locs → lv_has ls 5 [(0, .ref a_c), (1, .int p1), (2, .int p2), (3, .int x1), (4, .int x2)] → W p l e rm_X0_yardsInEar s m args below meth c H locs 0 0 Q (F0 m 5 ls []) := by
    intro n
    induction n with
    | zero => intro x1 x2 hF; exact (lp_no (hK03 x1 x2) hF).elim
    | succ n ih3 =>
      intro x1 x2 hF H locs ls hw hl
      replace hF := hK3 n x1 x2 hF
      refine lv_iload hx hb (dq dt_X0_yardsInEar 4 rfl) (lv_at hl 4 rfl) ?_
      refine lv_aload_n hx hb (dq dt_X0_yardsInEar 5 rfl) rfl (lv_at hl 0 rfl) ?_
      refine kGet (ci := 0) C in_X0 hw 0 rfl rfl 0 (by decide) (C.2.2.2.2.2.2.1 _ q2_10) rfl rfl (dq dt_X0_yardsInEar 6 rfl) ?_
      refine lv_icmp_ge (tgt := 41) hx hb (dq dt_X0_yardsInEar 7 rfl) (by decide) (fun c4 => ?_) (fun c4 => ?_)
      · replace hF := if_t c4 hF
        refine lv_iload_n hx hb (dq dt_X0_yardsInEar 23 rfl) rfl (lv_at hl 3 rfl) ?_
        cases hF
        exact kRetI hQ C hw (dq dt_X0_yardsInEar 24 rfl)
      · replace hF := if_f c4 hF
        refine lv_iload_n hx hb (dq dt_X0_yardsInEar 8 rfl) rfl (lv_at hl 3 rfl) ?_
        refine lv_iload_n hx hb (dq dt_X0_yardsInEar 9 rfl) rfl (lv_at hl 2 rfl) ?_
        refine lv_iload_n hx hb (dq dt_X0_yardsInEar 10 rfl) rfl (lv_at hl 1 rfl) ?_
        refine lv_iload hx hb (dq dt_X0_yardsInEar 11 rfl) (lv_at hl 4 rfl) ?_
        obtain ⟨v5, hr6, hF⟩ := zc1_ hF
        refine kCallSN C hw (A_X8_reaches l D cB cI cJ cZ ad p2 p1 x2 v5 hr6) ⟨va_cnB 3 C.2.2.2.2.2.2.1 (w0_all0 q3_54) rfl rfl rfl (C.2.2.2.2.2.2.2.2.1.1 _ (List.mem_of_getElem? (i := 11) rfl)) (C.2.2.2.2.2.2.1 _ q1_1) ke_X8_reaches ⟨Nat.le_of_ble_eq_true rfl, Nat.le_of_ble_eq_true rfl⟩, (C.2.2.2.2.2.2.1 _ q3_53), trivial⟩ hl.1 rfl rfl rfl (Nat.le_of_ble_eq_true rfl) ⟨Nat.le_of_ble_eq_true rfl, Nat.le_of_ble_eq_true rfl⟩ (dq dt_X0_yardsInEar 12 rfl) (fun H locs hw => ?_)
        obtain ⟨K8, hK8, hF⟩ := zj1_ hF
        have J8 : ∀ (y7 : Int32), K8 y7 = some r → ∀ (H : Heap) (locs : List Loc) (ls : Array Slot), kW D A s.heap [(a_c, .inr (0, [.int c_yards, .int c_count, .int c_possible]))] H locs → lv_has ls 5 [(0, .ref a_c), (1, .int p1), (2, .int p2), (4, .int x2)] → W p l e rm_X0_yardsInEar s m args below meth c H locs 0 0 Q (F0 m 33 ls [.int y7, .int x1]) := by
          intro y7 hF H locs ls hw hl
          replace hF := hK8 y7 hF
          refine lv_ior hx hb (dq dt_X0_yardsInEar 19 rfl) ?_
          obtain ⟨v9, ev9, hF⟩ := bd_ hF
          refine kNmI ev9 ?_
          refine lv_istore_n (lv' := [(3, .int v9), (0, .ref a_c), (1, .int p1), (2, .int p2), (4, .int x2)]) hx hb (dq dt_X0_yardsInEar 20 rfl) rfl hl (by decide) rfl (fun ls hl => ?_)
          obtain ⟨v10, ev10, hF⟩ := bd_ hF
          refine lv_iinc (v := v10) (lv' := [(4, .int v10), (3, .int v9), (0, .ref a_c), (1, .int p1), (2, .int p2)]) hx hb (dq dt_X0_yardsInEar 21 rfl) hl (k := 4) rfl ev10.symm (by decide) rfl (fun ls hl => ?_)
          refine lv_goto (tgt := 5) hx hb (dq dt_X0_yardsInEar 22 rfl) (by decide) ?_
          exact ih3 v9 v10 hF _ _ _ hw (lv_sub hl [2, 3, 4, 1, 0] rfl)
        refine lv_if_eq (tgt := 32) hx hb (dq dt_X0_yardsInEar 13 rfl) (by decide) (fun c11 => ?_) (fun c11 => ?_)
        · replace hF := if_t c11 hF
          refine lv_iconst (v := (0 : Int32)) hx hb (dq dt_X0_yardsInEar 18 rfl) (by decide) ?_
          exact J8 (0 : Int32) hF _ _ _ hw (lv_sub hl [0, 1, 2, 4] rfl)
        · replace hF := if_f c11 hF
          refine lv_iconst (v := (1 : Int32)) hx hb (dq dt_X0_yardsInEar 14 rfl) (by decide) ?_
          refine lv_iload hx hb (dq dt_X0_yardsInEar 15 rfl) (lv_at hl 4 rfl) ?_
          refine lv_ishl hx hb (dq dt_X0_yardsInEar 16 rfl) ?_
          refine lv_goto (tgt := 33) hx hb (dq dt_X0_yardsInEar 17 rfl) (by decide) ?_
          exact J8 ((1 : Int32) <<< (x2 &&& 31)) hF _ _ _ hw (lv_sub hl [0, 1, 2, 4] rfl)
  exact L3 _ (0 : Int32) (0 : Int32) hF _ _ _ hw (lv_sub hl [2, 3, 4, 1, 0] rfl)
def F_X0_add (c_count : Int32) (c_possible : Int32) (p1 : Int32) : Option (Int32 × Int32 × Int32) :=
  if c_count < (9 : Int32) then (bd (c_possible &&& p1) (fun v2 => bd (c_count + (1 : Int32)) (fun v3 => some (v3, v3, v2)))) else (some ((-5 : Int32), c_count, c_possible))
abbrev rm_X0_add : Room := { frames := 0, cells := 0, slots := 0, locals := 0 }
theorem kd_X0_add : yX0_add.cls = RX0 ∧ yX0_add.cls ≠ "java/lang/invoke/MethodHandle" ∧ yX0_add.cls ≠ "java/lang/invoke/VarHandle" ∧ (parseMethodDescriptor yX0_add.desc).map (fun d => d.parameters.length) = some 1 := by decide +kernel
set_option maxRecDepth 100000 in
set_option maxHeartbeats 4000000 in
theorem A_X0_add (l : Launch) (D : va_G) (cB cI cJ cZ : ClassId) (ad : (Nat → Nat) × (Nat → Nat)) (a_c : Nat) (c_yards : Int32) (c_count : Int32) (c_possible : Int32) (p1 : Int32) (r : Int32) (c_count' : Int32) (c_possible' : Int32) (hF : F_X0_add c_count c_possible p1 = some (r, c_count', c_possible')) : kM l yX0_add (Cond.code yX0_add cX0_add 2 (some .int) :: W0) rm_X0_add D (kT cB cI cJ cZ) ad [.ref a_c, .int p1] [(a_c, .inr (0, [.int c_yards, .int c_count, .int c_possible]))] (some (.int r)) [(a_c, .inr (0, [.int c_yards, .int (c_count'), .int (c_possible')]))] := by
  unfold F_X0_add at hF
  refine kStart (lv := [(0, .ref a_c), (1, .int p1)]) (own := "DikeWatch$Clues") (plainFor_of_name (by decide)) rfl (Nat.le_of_ble_eq_true rfl) rfl ?_
  intro p e s m args below meth c A Q ls hQ C hx hb hw hl
  refine lv_aload_n hx hb (dq dt_X0_add 0 rfl) rfl (lv_at hl 0 rfl) ?_
  refine kGet (ci := 0) C in_X0 hw 0 rfl rfl 1 (by decide) (C.2.2.2.2.2.2.1 _ q2_11) rfl rfl (dq dt_X0_add 1 rfl) ?_
  refine lv_bipush (v := (9 : Int32)) hx hb (dq dt_X0_add 2 rfl) (by decide) ?_
  refine lv_icmp_lt (tgt := 12) hx hb (dq dt_X0_add 3 rfl) (by decide) (fun c1 => ?_) (fun c1 => ?_)
  · replace hF := if_t c1 hF
    refine lv_aload_n hx hb (dq dt_X0_add 6 rfl) rfl (lv_at hl 0 rfl) ?_
    refine lv_dup hx hb (dq dt_X0_add 7 rfl) rfl ?_
    refine kGet (ci := 0) C in_X0 hw 0 rfl rfl 2 (by decide) (C.2.2.2.2.2.2.1 _ q2_13) rfl rfl (dq dt_X0_add 8 rfl) ?_
    refine lv_iload_n hx hb (dq dt_X0_add 9 rfl) rfl (lv_at hl 1 rfl) ?_
    refine lv_iand hx hb (dq dt_X0_add 10 rfl) ?_
    obtain ⟨v2, ev2, hF⟩ := bd_ hF
    refine kNmI ev2 ?_
    refine kPut (ci := 0) (ws' := [(a_c, .inr (0, [.int c_yards, .int c_count, .int v2]))]) C in_X0 tyX0 tyX0_ok nmX0 hw 0 rfl rfl 2 (by decide) (C.2.2.2.2.2.2.1 _ q2_13) rfl rfl rfl rfl (Nat.le_of_ble_eq_true rfl) rfl (dq dt_X0_add 11 rfl) (fun H locs hw => ?_)
    refine lv_aload_n hx hb (dq dt_X0_add 12 rfl) rfl (lv_at hl 0 rfl) ?_
    refine lv_dup hx hb (dq dt_X0_add 13 rfl) rfl ?_
    refine kGet (ci := 0) C in_X0 hw 0 rfl rfl 1 (by decide) (C.2.2.2.2.2.2.1 _ q2_11) rfl rfl (dq dt_X0_add 14 rfl) ?_
    refine lv_iconst (v := (1 : Int32)) hx hb (dq dt_X0_add 15 rfl) (by decide) ?_
    refine lv_iadd hx hb (dq dt_X0_add 16 rfl) ?_
    obtain ⟨v3, ev3, hF⟩ := bd_ hF
    refine kNmI ev3 ?_
    refine kPut (ci := 0) (ws' := [(a_c, .inr (0, [.int c_yards, .int v3, .int v2]))]) C in_X0 tyX0 tyX0_ok nmX0 hw 0 rfl rfl 1 (by decide) (C.2.2.2.2.2.2.1 _ q2_11) rfl rfl rfl rfl (Nat.le_of_ble_eq_true rfl) rfl (dq dt_X0_add 17 rfl) (fun H locs hw => ?_)
    refine lv_aload_n hx hb (dq dt_X0_add 18 rfl) rfl (lv_at hl 0 rfl) ?_
    refine kGet (ci := 0) C in_X0 hw 0 rfl rfl 1 (by decide) (C.2.2.2.2.2.2.1 _ q2_11) rfl rfl (dq dt_X0_add 19 rfl) ?_
    cases hF
    exact kRetI hQ C hw (dq dt_X0_add 20 rfl)
  · replace hF := if_f c1 hF
    refine lv_bipush (v := (-5 : Int32)) hx hb (dq dt_X0_add 4 rfl) (by decide) ?_
    cases hF
    exact kRetI hQ C hw (dq dt_X0_add 5 rfl)
def F_X8_seen (t_yards : Int32) (c_yards : Int32) (c_count : Int32) (c_possible : Int32) (p1 : Int32) (p2 : Int32) (p3 : Int32) : Option (Int32 × Int32 × Int32) :=
  zc1 (F_X7_hasYard t_yards p1) (fun v1 => if v1 = 0 then (some ((-2 : Int32), c_count, c_possible)) else (zc1 (F_X8_isWithin p2 (0 : Int32) (9 : Int32)) (fun v4 => if v4 = 0 then (some ((-3 : Int32), c_count, c_possible)) else (zc1 (F_X8_isWithin p3 (0 : Int32) (1 : Int32)) (fun v7 => if v7 = 0 then (some ((-3 : Int32), c_count, c_possible)) else (zc1 (F_X0_yardsInEar c_yards p1 p2) (fun v10 => zj1 (fun y12 => zc3 (F_X0_add c_count c_possible y12) (fun v14 g15 g16 => some (v14, g15, g16))) (fun K13 => if p3 = (1 : Int32) then (K13 v10) else (K13 (v10 ^^^ (-1 : Int32)))))))))))
abbrev rm_X8_seen : Room := { frames := 3, cells := 0, slots := 0, locals := 86 }
theorem kd_X8_seen : yX8_seen.cls = RX8 ∧ yX8_seen.cls ≠ "java/lang/invoke/MethodHandle" ∧ yX8_seen.cls ≠ "java/lang/invoke/VarHandle" ∧ (parseMethodDescriptor yX8_seen.desc).map (fun d => d.parameters.length) = some 3 := by decide +kernel
set_option maxRecDepth 100000 in
set_option maxHeartbeats 4000000 in
theorem A_X8_seen (l : Launch) (D : va_G) (cB cI cJ cZ : ClassId) (ad : (Nat → Nat) × (Nat → Nat)) (a_d a_x a_t a_g a_r a_n a_k a_j a_f a_e a_z a_c a_t_tides a_t_seepYard a_t_seepSize a_t_growth a_t_level a_t_kind a_t_childYard a_t_pace a_t_ear : Nat) (d_keptBits : Int32) (t_yards : Int32) (t_seeps : Int32) (t_children : Int32) (c_yards : Int32) (c_count : Int32) (c_possible : Int32) (p1 : Int32) (p2 : Int32) (p3 : Int32) (r : Int32) (c_count' : Int32) (c_possible' : Int32) (hF : F_X8_seen t_yards c_yards c_count c_possible p1 p2 p3 = some (r, c_count', c_possible')) : kM l yX8_seen (Cond.code yX8_seen cX8_seen 5 (some .int) :: W0) rm_X8_seen D (kT cB cI cJ cZ) ad [.ref a_d, .int p1, .int p2, .int p3] [(a_d, .inr (8, [.ref a_x, .ref a_t, .ref a_g, .ref a_r, .ref a_n, .ref a_k, .ref a_j, .int d_keptBits, .ref a_f, .ref a_e, .ref a_z, .ref a_c])), (a_t, .inr (7, [.int t_yards, .ref a_t_tides, .int t_seeps, .ref a_t_seepYard, .ref a_t_seepSize, .ref a_t_growth, .ref a_t_level, .int t_children, .ref a_t_kind, .ref a_t_childYard, .ref a_t_pace, .ref a_t_ear])), (a_c, .inr (0, [.int c_yards, .int c_count, .int c_possible]))] (some (.int r)) [(a_d, .inr (8, [.ref a_x, .ref a_t, .ref a_g, .ref a_r, .ref a_n, .ref a_k, .ref a_j, .int d_keptBits, .ref a_f, .ref a_e, .ref a_z, .ref a_c])), (a_t, .inr (7, [.int t_yards, .ref a_t_tides, .int t_seeps, .ref a_t_seepYard, .ref a_t_seepSize, .ref a_t_growth, .ref a_t_level, .int t_children, .ref a_t_kind, .ref a_t_childYard, .ref a_t_pace, .ref a_t_ear])), (a_c, .inr (0, [.int c_yards, .int (c_count'), .int (c_possible')]))] := by
  unfold F_X8_seen at hF
  refine kStart (lv := [(0, .ref a_d), (1, .int p1), (2, .int p2), (3, .int p3)]) (own := "DikeWatch") (plainFor_of_name (by decide)) rfl (Nat.le_of_ble_eq_true rfl) rfl ?_
  intro p e s m args below meth c A Q ls hQ C hx hb hw hl
  refine lv_aload_n hx hb (dq dt_X8_seen 0 rfl) rfl (lv_at hl 0 rfl) ?_
  refine kGet (ci := 8) C in_X8 hw 0 rfl rfl 1 (by decide) (C.2.2.2.2.2.2.1 _ q2_23) rfl rfl (dq dt_X8_seen 1 rfl) ?_
  refine lv_iload_n hx hb (dq dt_X8_seen 2 rfl) rfl (lv_at hl 1 rfl) ?_
  obtain ⟨v1, hr2, hF⟩ := zc1_ hF
  refine kCallVR C hw (A_X7_hasYard l D cB cI cJ cZ ad a_t a_t_tides a_t_seepYard a_t_seepSize a_t_growth a_t_level a_t_kind a_t_childYard a_t_pace a_t_ear t_yards t_seeps t_children p1 v1 hr2) (cwV 1 C.2.2.2.2.2.2.1 (w0_V0 q3_105 q3_102 q3_103 q3_104 q1_3) rfl rfl rfl kd_X7_hasYard ⟨Nat.le_of_ble_eq_true rfl, Nat.le_of_ble_eq_true rfl⟩) [1] rfl rfl 1 7 rfl rfl hl.1 rfl rfl rfl (Nat.le_of_ble_eq_true rfl) ⟨Nat.le_of_ble_eq_true rfl, Nat.le_of_ble_eq_true rfl⟩ (dq dt_X8_seen 3 rfl) (fun H locs hw => ?_)
  refine lv_if_ne (tgt := 14) hx hb (dq dt_X8_seen 4 rfl) (by decide) (fun c3 => ?_) (fun c3 => ?_)
  · replace hF := if_f c3 hF
    refine lv_iload_n hx hb (dq dt_X8_seen 7 rfl) rfl (lv_at hl 2 rfl) ?_
    refine lv_iconst (v := (0 : Int32)) hx hb (dq dt_X8_seen 8 rfl) (by decide) ?_
    refine lv_bipush (v := (9 : Int32)) hx hb (dq dt_X8_seen 9 rfl) (by decide) ?_
    obtain ⟨v4, hr5, hF⟩ := zc1_ hF
    refine kCallSP C hw (A_X8_isWithin l D cB cI cJ cZ ad p2 (0 : Int32) (9 : Int32) v4 hr5) (va_cwS 3 C.2.2.2.2.2.2.1 (w0_S0 q2_65 q2_63 q2_64 q1_1) rfl rfl rfl ke_X8_isWithin ⟨Nat.le_of_ble_eq_true rfl, Nat.le_of_ble_eq_true rfl⟩) hl.1 rfl rfl rfl (Nat.le_of_ble_eq_true rfl) ⟨Nat.le_of_ble_eq_true rfl, Nat.le_of_ble_eq_true rfl⟩ (dq dt_X8_seen 10 rfl) (fun H locs hw => ?_)
    refine lv_if_eq (tgt := 33) hx hb (dq dt_X8_seen 11 rfl) (by decide) (fun c6 => ?_) (fun c6 => ?_)
    · replace hF := if_t c6 hF
      refine lv_bipush (v := (-3 : Int32)) hx hb (dq dt_X8_seen 17 rfl) (by decide) ?_
      cases hF
      exact kRetI hQ C hw (dq dt_X8_seen 18 rfl)
    · replace hF := if_f c6 hF
      refine lv_iload_n hx hb (dq dt_X8_seen 12 rfl) rfl (lv_at hl 3 rfl) ?_
      refine lv_iconst (v := (0 : Int32)) hx hb (dq dt_X8_seen 13 rfl) (by decide) ?_
      refine lv_iconst (v := (1 : Int32)) hx hb (dq dt_X8_seen 14 rfl) (by decide) ?_
      obtain ⟨v7, hr8, hF⟩ := zc1_ hF
      refine kCallSP C hw (A_X8_isWithin l D cB cI cJ cZ ad p3 (0 : Int32) (1 : Int32) v7 hr8) (va_cwS 3 C.2.2.2.2.2.2.1 (w0_S0 q2_65 q2_63 q2_64 q1_1) rfl rfl rfl ke_X8_isWithin ⟨Nat.le_of_ble_eq_true rfl, Nat.le_of_ble_eq_true rfl⟩) hl.1 rfl rfl rfl (Nat.le_of_ble_eq_true rfl) ⟨Nat.le_of_ble_eq_true rfl, Nat.le_of_ble_eq_true rfl⟩ (dq dt_X8_seen 15 rfl) (fun H locs hw => ?_)
      refine lv_if_ne (tgt := 36) hx hb (dq dt_X8_seen 16 rfl) (by decide) (fun c9 => ?_) (fun c9 => ?_)
      · replace hF := if_f c9 hF
        refine lv_aload_n hx hb (dq dt_X8_seen 19 rfl) rfl (lv_at hl 0 rfl) ?_
        refine kGet (ci := 8) C in_X8 hw 0 rfl rfl 11 (by decide) (C.2.2.2.2.2.2.1 _ q2_33) rfl rfl (dq dt_X8_seen 20 rfl) ?_
        refine lv_iload_n hx hb (dq dt_X8_seen 21 rfl) rfl (lv_at hl 1 rfl) ?_
        refine lv_iload_n hx hb (dq dt_X8_seen 22 rfl) rfl (lv_at hl 2 rfl) ?_
        obtain ⟨v10, hr11, hF⟩ := zc1_ hF
        refine kCallVR C hw (A_X0_yardsInEar l D cB cI cJ cZ ad a_c c_yards c_count c_possible p1 p2 v10 hr11) (cwV 2 C.2.2.2.2.2.2.1 (w0_V0 q4_50 q4_47 q4_48 q4_49 q1_9) rfl rfl rfl kd_X0_yardsInEar ⟨Nat.le_of_ble_eq_true rfl, Nat.le_of_ble_eq_true rfl⟩) [2] rfl rfl 2 0 rfl rfl hl.1 rfl rfl rfl (Nat.le_of_ble_eq_true rfl) ⟨Nat.le_of_ble_eq_true rfl, Nat.le_of_ble_eq_true rfl⟩ (dq dt_X8_seen 23 rfl) (fun H locs hw => ?_)
        refine lv_istore (lv' := [(4, .int v10), (0, .ref a_d), (1, .int p1), (2, .int p2), (3, .int p3)]) hx hb (dq dt_X8_seen 24 rfl) hl (by decide) rfl (fun ls hl => ?_)
        refine lv_aload_n hx hb (dq dt_X8_seen 25 rfl) rfl (lv_at hl 1 rfl) ?_
        refine kGet (ci := 8) C in_X8 hw 0 rfl rfl 11 (by decide) (C.2.2.2.2.2.2.1 _ q2_33) rfl rfl (dq dt_X8_seen 26 rfl) ?_
        refine lv_iload_n hx hb (dq dt_X8_seen 27 rfl) rfl (lv_at hl 4 rfl) ?_
        refine lv_iconst (v := (1 : Int32)) hx hb (dq dt_X8_seen 28 rfl) (by decide) ?_
        obtain ⟨K13, hK13, hF⟩ := zj1_ hF
        have J13 : ∀ (y12 : Int32), K13 y12 = some (r, c_count', c_possible') → ∀ (H : Heap) (locs : List Loc) (ls : Array Slot), kW D A s.heap [(a_d, .inr (8, [.ref a_x, .ref a_t, .ref a_g, .ref a_r, .ref a_n, .ref a_k, .ref a_j, .int d_keptBits, .ref a_f, .ref a_e, .ref a_z, .ref a_c])), (a_t, .inr (7, [.int t_yards, .ref a_t_tides, .int t_seeps, .ref a_t_seepYard, .ref a_t_seepSize, .ref a_t_growth, .ref a_t_level, .int t_children, .ref a_t_kind, .ref a_t_childYard, .ref a_t_pace, .ref a_t_ear])), (a_c, .inr (0, [.int c_yards, .int c_count, .int c_possible]))] H locs → lv_has ls 5 [] → W p l e rm_X8_seen s m args below meth c H locs 0 0 Q (F0 m 65 ls [.int y12, .ref a_c]) := by
          intro y12 hF H locs ls hw hl
          replace hF := hK13 y12 hF
          obtain ⟨v14, g15, g16, hr17, hF⟩ := zc3_ hF
          refine kCallV (ws2 := [(a_d, .inr (8, [.ref a_x, .ref a_t, .ref a_g, .ref a_r, .ref a_n, .ref a_k, .ref a_j, .int d_keptBits, .ref a_f, .ref a_e, .ref a_z, .ref a_c])), (a_t, .inr (7, [.int t_yards, .ref a_t_tides, .int t_seeps, .ref a_t_seepYard, .ref a_t_seepSize, .ref a_t_growth, .ref a_t_level, .int t_children, .ref a_t_kind, .ref a_t_childYard, .ref a_t_pace, .ref a_t_ear])), (a_c, .inr (0, [.int c_yards, .int g15, .int g16]))]) C hw (A_X0_add l D cB cI cJ cZ ad a_c c_yards c_count c_possible y12 v14 g15 g16 hr17) (cwV 1 C.2.2.2.2.2.2.1 (w0_V0 q4_55 q4_52 q4_53 q4_54 q1_9) rfl rfl rfl kd_X0_add ⟨Nat.le_of_ble_eq_true rfl, Nat.le_of_ble_eq_true rfl⟩) [2] rfl rfl rfl rfl 2 0 rfl rfl hl.1 rfl rfl rfl (Nat.le_of_ble_eq_true rfl) ⟨Nat.le_of_ble_eq_true rfl, Nat.le_of_ble_eq_true rfl⟩ (dq dt_X8_seen 35 rfl) (fun H locs hw => ?_)
          cases hF
          exact kRetI hQ C hw (dq dt_X8_seen 36 rfl)
        refine lv_icmp_ne (tgt := 61) hx hb (dq dt_X8_seen 29 rfl) (by decide) (fun c18 => ?_) (fun c18 => ?_)
        · replace hF := if_f c18 hF
          refine lv_iload hx hb (dq dt_X8_seen 32 rfl) (lv_at hl 0 rfl) ?_
          refine lv_iconst (v := (-1 : Int32)) hx hb (dq dt_X8_seen 33 rfl) (by decide) ?_
          refine lv_ixor hx hb (dq dt_X8_seen 34 rfl) ?_
          exact J13 (v10 ^^^ (-1 : Int32)) hF _ _ _ hw (lv_sub hl [] rfl)
        · replace hF := if_t c18 hF
          refine lv_iload hx hb (dq dt_X8_seen 30 rfl) (lv_at hl 0 rfl) ?_
          refine lv_goto (tgt := 65) hx hb (dq dt_X8_seen 31 rfl) (by decide) ?_
          exact J13 v10 hF _ _ _ hw (lv_sub hl [] rfl)
      · replace hF := if_t c9 hF
        refine lv_bipush (v := (-3 : Int32)) hx hb (dq dt_X8_seen 17 rfl) (by decide) ?_
        cases hF
        exact kRetI hQ C hw (dq dt_X8_seen 18 rfl)
  · replace hF := if_t c3 hF
    refine lv_bipush (v := (-2 : Int32)) hx hb (dq dt_X8_seen 5 rfl) (by decide) ?_
    cases hF
    exact kRetI hQ C hw (dq dt_X8_seen 6 rfl)
def F_X0_yardsPaying (c_yards : Int32) (p1 : Int32) (p2 : Int32) : Option (Int32) :=
  zl2 (fun x1 x2 ag3 => if c_yards ≤ x2 then (some x1) else (zc1 (F_X8_orangesFor p1 x2) (fun v5 => zj1 (fun y7 => bd (x1 ||| y7) (fun v9 => bd (x2 + (1 : Int32)) (fun v10 => ag3 v9 v10))) (fun K8 => if v5 = p2 then (K8 ((1 : Int32) <<< (x2 &&& 31))) else (K8 (0 : Int32)))))) FU (0 : Int32) (0 : Int32)
abbrev rm_X0_yardsPaying : Room := { frames := 2, cells := 0, slots := 0, locals := 61 }
theorem kd_X0_yardsPaying : yX0_yardsPaying.cls = RX0 ∧ yX0_yardsPaying.cls ≠ "java/lang/invoke/MethodHandle" ∧ yX0_yardsPaying.cls ≠ "java/lang/invoke/VarHandle" ∧ (parseMethodDescriptor yX0_yardsPaying.desc).map (fun d => d.parameters.length) = some 2 := by decide +kernel
set_option maxRecDepth 100000 in
set_option maxHeartbeats 4000000 in
theorem A_X0_yardsPaying (l : Launch) (D : va_G) (cB cI cJ cZ : ClassId) (ad : (Nat → Nat) × (Nat → Nat)) (a_c : Nat) (c_yards : Int32) (c_count : Int32) (c_possible : Int32) (p1 : Int32) (p2 : Int32) (r : Int32) (hF : F_X0_yardsPaying c_yards p1 p2 = some r) : kM l yX0_yardsPaying (Cond.code yX0_yardsPaying cX0_yardsPaying 5 (some .int) :: W0) rm_X0_yardsPaying D (kT cB cI cJ cZ) ad [.ref a_c, .int p1, .int p2] [(a_c, .inr (0, [.int c_yards, .int c_count, .int c_possible]))] (some (.int r)) [(a_c, .inr (0, [.int c_yards, .int c_count, .int c_possible]))] := by
  unfold F_X0_yardsPaying at hF
  refine kStart (lv := [(0, .ref a_c), (1, .int p1), (2, .int p2)]) (own := "DikeWatch$Clues") (plainFor_of_name (by decide)) rfl (Nat.le_of_ble_eq_true rfl) rfl ?_
  intro p e s m args below meth c A Q ls hQ C hx hb hw hl
  refine lv_iconst (v := (0 : Int32)) hx hb (dq dt_X0_yardsPaying 0 rfl) (by decide) ?_
  refine lv_istore_n (lv' := [(3, .int (0 : Int32)), (0, .ref a_c), (1, .int p1), (2, .int p2)]) hx hb (dq dt_X0_yardsPaying 1 rfl) rfl hl (by decide) rfl (fun ls hl => ?_)
  refine lv_iconst (v := (0 : Int32)) hx hb (dq dt_X0_yardsPaying 2 rfl) (by decide) ?_
  refine lv_istore (lv' := [(4, .int (0 : Int32)), (3, .int (0 : Int32)), (0, .ref a_c), (1, .int p1), (2, .int p2)]) hx hb (dq dt_X0_yardsPaying 3 rfl) hl (by decide) rfl (fun ls hl => ?_)
  obtain ⟨K3, hK03, hK3, hF⟩ := zl2_ hF
  have L3 : ∀ (n : Nat) (x1 : Int32) (x2 : Int32), K3 n x1 x2 = some r → ∀ (H : Heap) (locs : List Loc) (ls : Array Slot), kW D A s.heap [(a_c, .inr (0, [.int c_yards, .int c_count, .int c_possible]))] H locs → lv_has ls 5 [(0, .ref a_c), (1, .int p1), (2, .int p2), (3, .int x1), (4, .int x2)] → W p l e rm_X0_yardsPaying s m args below meth c H locs 0 0 Q (F0 m 5 ls []) := by
    intro n
    induction n with
    | zero => intro x1 x2 hF; exact (lp_no (hK03 x1 x2) hF).elim
    | succ n ih3 =>
      intro x1 x2 hF H locs ls hw hl
      replace hF := hK3 n x1 x2 hF
      refine lv_iload hx hb (dq dt_X0_yardsPaying 4 rfl) (lv_at hl 4 rfl) ?_
      refine lv_aload_n hx hb (dq dt_X0_yardsPaying 5 rfl) rfl (lv_at hl 0 rfl) ?_
      refine kGet (ci := 0) C in_X0 hw 0 rfl rfl 0 (by decide) (C.2.2.2.2.2.2.1 _ q2_10) rfl rfl (dq dt_X0_yardsPaying 6 rfl) ?_
      refine lv_icmp_ge (tgt := 41) hx hb (dq dt_X0_yardsPaying 7 rfl) (by decide) (fun c4 => ?_) (fun c4 => ?_)
      · replace hF := if_t c4 hF
        refine lv_iload_n hx hb (dq dt_X0_yardsPaying 23 rfl) rfl (lv_at hl 3 rfl) ?_
        cases hF
        exact kRetI hQ C hw (dq dt_X0_yardsPaying 24 rfl)
      · replace hF := if_f c4 hF
        refine lv_iload_n hx hb (dq dt_X0_yardsPaying 8 rfl) rfl (lv_at hl 3 rfl) ?_
        refine lv_iload_n hx hb (dq dt_X0_yardsPaying 9 rfl) rfl (lv_at hl 1 rfl) ?_
        refine lv_iload hx hb (dq dt_X0_yardsPaying 10 rfl) (lv_at hl 4 rfl) ?_
        obtain ⟨v5, hr6, hF⟩ := zc1_ hF
        refine kCallSN C hw (A_X8_orangesFor l D cB cI cJ cZ ad p1 x2 v5 hr6) ⟨va_cnB 2 C.2.2.2.2.2.2.1 (w0_all0 q3_121) rfl rfl rfl (C.2.2.2.2.2.2.2.2.1.1 _ (List.mem_of_getElem? (i := 12) rfl)) (C.2.2.2.2.2.2.1 _ q1_1) ke_X8_orangesFor ⟨Nat.le_of_ble_eq_true rfl, Nat.le_of_ble_eq_true rfl⟩, (C.2.2.2.2.2.2.1 _ q3_120), trivial⟩ hl.1 rfl rfl rfl (Nat.le_of_ble_eq_true rfl) ⟨Nat.le_of_ble_eq_true rfl, Nat.le_of_ble_eq_true rfl⟩ (dq dt_X0_yardsPaying 11 rfl) (fun H locs hw => ?_)
        refine lv_iload_n hx hb (dq dt_X0_yardsPaying 12 rfl) rfl (lv_at hl 2 rfl) ?_
        obtain ⟨K8, hK8, hF⟩ := zj1_ hF
        have J8 : ∀ (y7 : Int32), K8 y7 = some r → ∀ (H : Heap) (locs : List Loc) (ls : Array Slot), kW D A s.heap [(a_c, .inr (0, [.int c_yards, .int c_count, .int c_possible]))] H locs → lv_has ls 5 [(0, .ref a_c), (1, .int p1), (2, .int p2), (4, .int x2)] → W p l e rm_X0_yardsPaying s m args below meth c H locs 0 0 Q (F0 m 33 ls [.int y7, .int x1]) := by
          intro y7 hF H locs ls hw hl
          replace hF := hK8 y7 hF
          refine lv_ior hx hb (dq dt_X0_yardsPaying 19 rfl) ?_
          obtain ⟨v9, ev9, hF⟩ := bd_ hF
          refine kNmI ev9 ?_
          refine lv_istore_n (lv' := [(3, .int v9), (0, .ref a_c), (1, .int p1), (2, .int p2), (4, .int x2)]) hx hb (dq dt_X0_yardsPaying 20 rfl) rfl hl (by decide) rfl (fun ls hl => ?_)
          obtain ⟨v10, ev10, hF⟩ := bd_ hF
          refine lv_iinc (v := v10) (lv' := [(4, .int v10), (3, .int v9), (0, .ref a_c), (1, .int p1), (2, .int p2)]) hx hb (dq dt_X0_yardsPaying 21 rfl) hl (k := 4) rfl ev10.symm (by decide) rfl (fun ls hl => ?_)
          refine lv_goto (tgt := 5) hx hb (dq dt_X0_yardsPaying 22 rfl) (by decide) ?_
          exact ih3 v9 v10 hF _ _ _ hw (lv_sub hl [2, 3, 4, 1, 0] rfl)
        refine lv_icmp_ne (tgt := 32) hx hb (dq dt_X0_yardsPaying 13 rfl) (by decide) (fun c11 => ?_) (fun c11 => ?_)
        · replace hF := if_f c11 hF
          refine lv_iconst (v := (0 : Int32)) hx hb (dq dt_X0_yardsPaying 18 rfl) (by decide) ?_
          exact J8 (0 : Int32) hF _ _ _ hw (lv_sub hl [0, 1, 2, 4] rfl)
        · replace hF := if_t c11 hF
          refine lv_iconst (v := (1 : Int32)) hx hb (dq dt_X0_yardsPaying 14 rfl) (by decide) ?_
          refine lv_iload hx hb (dq dt_X0_yardsPaying 15 rfl) (lv_at hl 4 rfl) ?_
          refine lv_ishl hx hb (dq dt_X0_yardsPaying 16 rfl) ?_
          refine lv_goto (tgt := 33) hx hb (dq dt_X0_yardsPaying 17 rfl) (by decide) ?_
          exact J8 ((1 : Int32) <<< (x2 &&& 31)) hF _ _ _ hw (lv_sub hl [0, 1, 2, 4] rfl)
  exact L3 _ (0 : Int32) (0 : Int32) hF _ _ _ hw (lv_sub hl [2, 3, 4, 1, 0] rfl)
def F_X8_paid (t_yards : Int32) (c_yards : Int32) (c_count : Int32) (c_possible : Int32) (p1 : Int32) (p2 : Int32) : Option (Int32 × Int32 × Int32) :=
  zc1 (F_X7_hasYard t_yards p1) (fun v1 => if v1 = 0 then (some ((-2 : Int32), c_count, c_possible)) else (zc1 (F_X8_isWithin p2 (0 : Int32) (9 : Int32)) (fun v4 => if v4 = 0 then (some ((-3 : Int32), c_count, c_possible)) else (zc1 (F_X0_yardsPaying c_yards p1 p2) (fun v7 => zc3 (F_X0_add c_count c_possible v7) (fun v9 g10 g11 => some (v9, g10, g11)))))))
abbrev rm_X8_paid : Room := { frames := 3, cells := 0, slots := 0, locals := 85 }
theorem kd_X8_paid : yX8_paid.cls = RX8 ∧ yX8_paid.cls ≠ "java/lang/invoke/MethodHandle" ∧ yX8_paid.cls ≠ "java/lang/invoke/VarHandle" ∧ (parseMethodDescriptor yX8_paid.desc).map (fun d => d.parameters.length) = some 2 := by decide +kernel
set_option maxRecDepth 100000 in
set_option maxHeartbeats 4000000 in
theorem A_X8_paid (l : Launch) (D : va_G) (cB cI cJ cZ : ClassId) (ad : (Nat → Nat) × (Nat → Nat)) (a_d a_x a_t a_g a_r a_n a_k a_j a_f a_e a_z a_c a_t_tides a_t_seepYard a_t_seepSize a_t_growth a_t_level a_t_kind a_t_childYard a_t_pace a_t_ear : Nat) (d_keptBits : Int32) (t_yards : Int32) (t_seeps : Int32) (t_children : Int32) (c_yards : Int32) (c_count : Int32) (c_possible : Int32) (p1 : Int32) (p2 : Int32) (r : Int32) (c_count' : Int32) (c_possible' : Int32) (hF : F_X8_paid t_yards c_yards c_count c_possible p1 p2 = some (r, c_count', c_possible')) : kM l yX8_paid (Cond.code yX8_paid cX8_paid 3 (some .int) :: W0) rm_X8_paid D (kT cB cI cJ cZ) ad [.ref a_d, .int p1, .int p2] [(a_d, .inr (8, [.ref a_x, .ref a_t, .ref a_g, .ref a_r, .ref a_n, .ref a_k, .ref a_j, .int d_keptBits, .ref a_f, .ref a_e, .ref a_z, .ref a_c])), (a_t, .inr (7, [.int t_yards, .ref a_t_tides, .int t_seeps, .ref a_t_seepYard, .ref a_t_seepSize, .ref a_t_growth, .ref a_t_level, .int t_children, .ref a_t_kind, .ref a_t_childYard, .ref a_t_pace, .ref a_t_ear])), (a_c, .inr (0, [.int c_yards, .int c_count, .int c_possible]))] (some (.int r)) [(a_d, .inr (8, [.ref a_x, .ref a_t, .ref a_g, .ref a_r, .ref a_n, .ref a_k, .ref a_j, .int d_keptBits, .ref a_f, .ref a_e, .ref a_z, .ref a_c])), (a_t, .inr (7, [.int t_yards, .ref a_t_tides, .int t_seeps, .ref a_t_seepYard, .ref a_t_seepSize, .ref a_t_growth, .ref a_t_level, .int t_children, .ref a_t_kind, .ref a_t_childYard, .ref a_t_pace, .ref a_t_ear])), (a_c, .inr (0, [.int c_yards, .int (c_count'), .int (c_possible')]))] := by
  unfold F_X8_paid at hF
  refine kStart (lv := [(0, .ref a_d), (1, .int p1), (2, .int p2)]) (own := "DikeWatch") (plainFor_of_name (by decide)) rfl (Nat.le_of_ble_eq_true rfl) rfl ?_
  intro p e s m args below meth c A Q ls hQ C hx hb hw hl
  refine lv_aload_n hx hb (dq dt_X8_paid 0 rfl) rfl (lv_at hl 0 rfl) ?_
  refine kGet (ci := 8) C in_X8 hw 0 rfl rfl 1 (by decide) (C.2.2.2.2.2.2.1 _ q2_23) rfl rfl (dq dt_X8_paid 1 rfl) ?_
  refine lv_iload_n hx hb (dq dt_X8_paid 2 rfl) rfl (lv_at hl 1 rfl) ?_
  obtain ⟨v1, hr2, hF⟩ := zc1_ hF
  refine kCallVR C hw (A_X7_hasYard l D cB cI cJ cZ ad a_t a_t_tides a_t_seepYard a_t_seepSize a_t_growth a_t_level a_t_kind a_t_childYard a_t_pace a_t_ear t_yards t_seeps t_children p1 v1 hr2) (cwV 1 C.2.2.2.2.2.2.1 (w0_V0 q3_105 q3_102 q3_103 q3_104 q1_3) rfl rfl rfl kd_X7_hasYard ⟨Nat.le_of_ble_eq_true rfl, Nat.le_of_ble_eq_true rfl⟩) [1] rfl rfl 1 7 rfl rfl hl.1 rfl rfl rfl (Nat.le_of_ble_eq_true rfl) ⟨Nat.le_of_ble_eq_true rfl, Nat.le_of_ble_eq_true rfl⟩ (dq dt_X8_paid 3 rfl) (fun H locs hw => ?_)
  refine lv_if_ne (tgt := 14) hx hb (dq dt_X8_paid 4 rfl) (by decide) (fun c3 => ?_) (fun c3 => ?_)
  · replace hF := if_f c3 hF
    refine lv_iload_n hx hb (dq dt_X8_paid 7 rfl) rfl (lv_at hl 2 rfl) ?_
    refine lv_iconst (v := (0 : Int32)) hx hb (dq dt_X8_paid 8 rfl) (by decide) ?_
    refine lv_bipush (v := (9 : Int32)) hx hb (dq dt_X8_paid 9 rfl) (by decide) ?_
    obtain ⟨v4, hr5, hF⟩ := zc1_ hF
    refine kCallSP C hw (A_X8_isWithin l D cB cI cJ cZ ad p2 (0 : Int32) (9 : Int32) v4 hr5) (va_cwS 3 C.2.2.2.2.2.2.1 (w0_S0 q2_65 q2_63 q2_64 q1_1) rfl rfl rfl ke_X8_isWithin ⟨Nat.le_of_ble_eq_true rfl, Nat.le_of_ble_eq_true rfl⟩) hl.1 rfl rfl rfl (Nat.le_of_ble_eq_true rfl) ⟨Nat.le_of_ble_eq_true rfl, Nat.le_of_ble_eq_true rfl⟩ (dq dt_X8_paid 10 rfl) (fun H locs hw => ?_)
    refine lv_if_ne (tgt := 27) hx hb (dq dt_X8_paid 11 rfl) (by decide) (fun c6 => ?_) (fun c6 => ?_)
    · replace hF := if_f c6 hF
      refine lv_aload_n hx hb (dq dt_X8_paid 14 rfl) rfl (lv_at hl 0 rfl) ?_
      refine kGet (ci := 8) C in_X8 hw 0 rfl rfl 11 (by decide) (C.2.2.2.2.2.2.1 _ q2_33) rfl rfl (dq dt_X8_paid 15 rfl) ?_
      refine lv_aload_n hx hb (dq dt_X8_paid 16 rfl) rfl (lv_at hl 0 rfl) ?_
      refine kGet (ci := 8) C in_X8 hw 0 rfl rfl 11 (by decide) (C.2.2.2.2.2.2.1 _ q2_33) rfl rfl (dq dt_X8_paid 17 rfl) ?_
      refine lv_iload_n hx hb (dq dt_X8_paid 18 rfl) rfl (lv_at hl 1 rfl) ?_
      refine lv_iload_n hx hb (dq dt_X8_paid 19 rfl) rfl (lv_at hl 2 rfl) ?_
      obtain ⟨v7, hr8, hF⟩ := zc1_ hF
      refine kCallVR C hw (A_X0_yardsPaying l D cB cI cJ cZ ad a_c c_yards c_count c_possible p1 p2 v7 hr8) (cwV 2 C.2.2.2.2.2.2.1 (w0_V0 q4_63 q4_60 q4_61 q4_62 q1_9) rfl rfl rfl kd_X0_yardsPaying ⟨Nat.le_of_ble_eq_true rfl, Nat.le_of_ble_eq_true rfl⟩) [2] rfl rfl 2 0 rfl rfl hl.1 rfl rfl rfl (Nat.le_of_ble_eq_true rfl) ⟨Nat.le_of_ble_eq_true rfl, Nat.le_of_ble_eq_true rfl⟩ (dq dt_X8_paid 20 rfl) (fun H locs hw => ?_)
      obtain ⟨v9, g10, g11, hr12, hF⟩ := zc3_ hF
      refine kCallV (ws2 := [(a_d, .inr (8, [.ref a_x, .ref a_t, .ref a_g, .ref a_r, .ref a_n, .ref a_k, .ref a_j, .int d_keptBits, .ref a_f, .ref a_e, .ref a_z, .ref a_c])), (a_t, .inr (7, [.int t_yards, .ref a_t_tides, .int t_seeps, .ref a_t_seepYard, .ref a_t_seepSize, .ref a_t_growth, .ref a_t_level, .int t_children, .ref a_t_kind, .ref a_t_childYard, .ref a_t_pace, .ref a_t_ear])), (a_c, .inr (0, [.int c_yards, .int g10, .int g11]))]) C hw (A_X0_add l D cB cI cJ cZ ad a_c c_yards c_count c_possible v7 v9 g10 g11 hr12) (cwV 1 C.2.2.2.2.2.2.1 (w0_V0 q4_55 q4_52 q4_53 q4_54 q1_9) rfl rfl rfl kd_X0_add ⟨Nat.le_of_ble_eq_true rfl, Nat.le_of_ble_eq_true rfl⟩) [2] rfl rfl rfl rfl 2 0 rfl rfl hl.1 rfl rfl rfl (Nat.le_of_ble_eq_true rfl) ⟨Nat.le_of_ble_eq_true rfl, Nat.le_of_ble_eq_true rfl⟩ (dq dt_X8_paid 21 rfl) (fun H locs hw => ?_)
      cases hF
      exact kRetI hQ C hw (dq dt_X8_paid 22 rfl)
    · replace hF := if_t c6 hF
      refine lv_bipush (v := (-3 : Int32)) hx hb (dq dt_X8_paid 12 rfl) (by decide) ?_
      cases hF
      exact kRetI hQ C hw (dq dt_X8_paid 13 rfl)
  · replace hF := if_t c3 hF
    refine lv_bipush (v := (-2 : Int32)) hx hb (dq dt_X8_paid 5 rfl) (by decide) ?_
    cases hF
    exact kRetI hQ C hw (dq dt_X8_paid 6 rfl)
def F_X8_forget (t_yards : Int32) (c_yards : Int32) (c_count : Int32) (c_possible : Int32) : Option (Int32 × Int32 × Int32 × Int32) :=
  zc3 (F_X0_begin c_yards c_count c_possible t_yards) (fun g1 g2 g3 => some (c_count, g1, g2, g3))
abbrev rm_X8_forget : Room := { frames := 1, cells := 0, slots := 0, locals := 21 }
theorem kd_X8_forget : yX8_forget.cls = RX8 ∧ yX8_forget.cls ≠ "java/lang/invoke/MethodHandle" ∧ yX8_forget.cls ≠ "java/lang/invoke/VarHandle" ∧ (parseMethodDescriptor yX8_forget.desc).map (fun d => d.parameters.length) = some 0 := by decide +kernel
set_option maxRecDepth 100000 in
set_option maxHeartbeats 4000000 in
theorem A_X8_forget (l : Launch) (D : va_G) (cB cI cJ cZ : ClassId) (ad : (Nat → Nat) × (Nat → Nat)) (a_d a_x a_t a_g a_r a_n a_k a_j a_f a_e a_z a_c a_t_tides a_t_seepYard a_t_seepSize a_t_growth a_t_level a_t_kind a_t_childYard a_t_pace a_t_ear : Nat) (d_keptBits : Int32) (t_yards : Int32) (t_seeps : Int32) (t_children : Int32) (c_yards : Int32) (c_count : Int32) (c_possible : Int32) (r : Int32) (c_yards' : Int32) (c_count' : Int32) (c_possible' : Int32) (hF : F_X8_forget t_yards c_yards c_count c_possible = some (r, c_yards', c_count', c_possible')) : kM l yX8_forget (Cond.code yX8_forget cX8_forget 2 (some .int) :: W0) rm_X8_forget D (kT cB cI cJ cZ) ad [.ref a_d] [(a_d, .inr (8, [.ref a_x, .ref a_t, .ref a_g, .ref a_r, .ref a_n, .ref a_k, .ref a_j, .int d_keptBits, .ref a_f, .ref a_e, .ref a_z, .ref a_c])), (a_t, .inr (7, [.int t_yards, .ref a_t_tides, .int t_seeps, .ref a_t_seepYard, .ref a_t_seepSize, .ref a_t_growth, .ref a_t_level, .int t_children, .ref a_t_kind, .ref a_t_childYard, .ref a_t_pace, .ref a_t_ear])), (a_c, .inr (0, [.int c_yards, .int c_count, .int c_possible]))] (some (.int r)) [(a_d, .inr (8, [.ref a_x, .ref a_t, .ref a_g, .ref a_r, .ref a_n, .ref a_k, .ref a_j, .int d_keptBits, .ref a_f, .ref a_e, .ref a_z, .ref a_c])), (a_t, .inr (7, [.int t_yards, .ref a_t_tides, .int t_seeps, .ref a_t_seepYard, .ref a_t_seepSize, .ref a_t_growth, .ref a_t_level, .int t_children, .ref a_t_kind, .ref a_t_childYard, .ref a_t_pace, .ref a_t_ear])), (a_c, .inr (0, [.int (c_yards'), .int (c_count'), .int (c_possible')]))] := by
  unfold F_X8_forget at hF
  refine kStart (lv := [(0, .ref a_d)]) (own := "DikeWatch") (plainFor_of_name (by decide)) rfl (Nat.le_of_ble_eq_true rfl) rfl ?_
  intro p e s m args below meth c A Q ls hQ C hx hb hw hl
  refine lv_aload_n hx hb (dq dt_X8_forget 0 rfl) rfl (lv_at hl 0 rfl) ?_
  refine kGet (ci := 8) C in_X8 hw 0 rfl rfl 11 (by decide) (C.2.2.2.2.2.2.1 _ q2_33) rfl rfl (dq dt_X8_forget 1 rfl) ?_
  refine kGet (ci := 0) C in_X0 hw 2 rfl rfl 1 (by decide) (C.2.2.2.2.2.2.1 _ q2_12) rfl rfl (dq dt_X8_forget 2 rfl) ?_
  refine lv_istore_n (lv' := [(1, .int c_count), (0, .ref a_d)]) hx hb (dq dt_X8_forget 3 rfl) rfl hl (by decide) rfl (fun ls hl => ?_)
  refine lv_aload_n hx hb (dq dt_X8_forget 4 rfl) rfl (lv_at hl 1 rfl) ?_
  refine kGet (ci := 8) C in_X8 hw 0 rfl rfl 11 (by decide) (C.2.2.2.2.2.2.1 _ q2_33) rfl rfl (dq dt_X8_forget 5 rfl) ?_
  refine lv_aload_n hx hb (dq dt_X8_forget 6 rfl) rfl (lv_at hl 1 rfl) ?_
  refine kGet (ci := 8) C in_X8 hw 0 rfl rfl 1 (by decide) (C.2.2.2.2.2.2.1 _ q2_23) rfl rfl (dq dt_X8_forget 7 rfl) ?_
  refine kGet (ci := 7) C in_X7 hw 1 rfl rfl 0 (by decide) (C.2.2.2.2.2.2.1 _ q1_50) rfl rfl (dq dt_X8_forget 8 rfl) ?_
  obtain ⟨g1, g2, g3, hr4, hF⟩ := zc3_ hF
  refine kCallV (ws2 := [(a_d, .inr (8, [.ref a_x, .ref a_t, .ref a_g, .ref a_r, .ref a_n, .ref a_k, .ref a_j, .int d_keptBits, .ref a_f, .ref a_e, .ref a_z, .ref a_c])), (a_t, .inr (7, [.int t_yards, .ref a_t_tides, .int t_seeps, .ref a_t_seepYard, .ref a_t_seepSize, .ref a_t_growth, .ref a_t_level, .int t_children, .ref a_t_kind, .ref a_t_childYard, .ref a_t_pace, .ref a_t_ear])), (a_c, .inr (0, [.int g1, .int g2, .int g3]))]) C hw (A_X0_begin l D cB cI cJ cZ ad a_c c_yards c_count c_possible t_yards g1 g2 g3 hr4) (cwV 1 C.2.2.2.2.2.2.1 (w0_V0 q2_232 q2_229 q2_230 q2_231 q1_9) rfl rfl rfl kd_X0_begin ⟨Nat.le_of_ble_eq_true rfl, Nat.le_of_ble_eq_true rfl⟩) [2] rfl rfl rfl rfl 2 0 rfl rfl hl.1 rfl rfl rfl (Nat.le_of_ble_eq_true rfl) ⟨Nat.le_of_ble_eq_true rfl, Nat.le_of_ble_eq_true rfl⟩ (dq dt_X8_forget 9 rfl) (fun H locs hw => ?_)
  refine lv_iload_n hx hb (dq dt_X8_forget 10 rfl) rfl (lv_at hl 0 rfl) ?_
  cases hF
  exact kRetI hQ C hw (dq dt_X8_forget 11 rfl)
def F_X8_where (c_possible : Int32) : Option (Int32) :=
  some c_possible
abbrev rm_X8_where : Room := { frames := 0, cells := 0, slots := 0, locals := 0 }
theorem kd_X8_where : yX8_where.cls = RX8 ∧ yX8_where.cls ≠ "java/lang/invoke/MethodHandle" ∧ yX8_where.cls ≠ "java/lang/invoke/VarHandle" ∧ (parseMethodDescriptor yX8_where.desc).map (fun d => d.parameters.length) = some 0 := by decide +kernel
set_option maxRecDepth 100000 in
set_option maxHeartbeats 4000000 in
theorem A_X8_where (l : Launch) (D : va_G) (cB cI cJ cZ : ClassId) (ad : (Nat → Nat) × (Nat → Nat)) (a_d a_x a_t a_g a_r a_n a_k a_j a_f a_e a_z a_c : Nat) (d_keptBits : Int32) (c_yards : Int32) (c_count : Int32) (c_possible : Int32) (r : Int32) (hF : F_X8_where c_possible = some r) : kM l yX8_where (Cond.code yX8_where cX8_where 1 (some .int) :: W0) rm_X8_where D (kT cB cI cJ cZ) ad [.ref a_d] [(a_d, .inr (8, [.ref a_x, .ref a_t, .ref a_g, .ref a_r, .ref a_n, .ref a_k, .ref a_j, .int d_keptBits, .ref a_f, .ref a_e, .ref a_z, .ref a_c])), (a_c, .inr (0, [.int c_yards, .int c_count, .int c_possible]))] (some (.int r)) [(a_d, .inr (8, [.ref a_x, .ref a_t, .ref a_g, .ref a_r, .ref a_n, .ref a_k, .ref a_j, .int d_keptBits, .ref a_f, .ref a_e, .ref a_z, .ref a_c])), (a_c, .inr (0, [.int c_yards, .int c_count, .int c_possible]))] := by
  unfold F_X8_where at hF
  refine kStart (lv := [(0, .ref a_d)]) (own := "DikeWatch") (plainFor_of_name (by decide)) rfl (Nat.le_of_ble_eq_true rfl) rfl ?_
  intro p e s m args below meth c A Q ls hQ C hx hb hw hl
  refine lv_aload_n hx hb (dq dt_X8_where 0 rfl) rfl (lv_at hl 0 rfl) ?_
  refine kGet (ci := 8) C in_X8 hw 0 rfl rfl 11 (by decide) (C.2.2.2.2.2.2.1 _ q2_33) rfl rfl (dq dt_X8_where 1 rfl) ?_
  refine kGet (ci := 0) C in_X0 hw 1 rfl rfl 2 (by decide) (C.2.2.2.2.2.2.1 _ q2_14) rfl rfl (dq dt_X8_where 2 rfl) ?_
  cases hF
  exact kRetI hQ C hw (dq dt_X8_where 3 rfl)
def F_X0_surestYard (c_yards : Int32) (c_possible : Int32) (p1 : Int32) : Option (Int32) :=
  zl3 (fun x1 x2 x3 ag4 => if c_yards ≤ x3 then (some x1) else (if c_possible = 0 then (some x1) else (zc1 (F_X0_yardsInEar c_yards x3 p1) (fun v7 => bd (c_possible &&& v7) (fun v9 => zc1 (F_J6_bitCount_0f7a4 v9) (fun v10 => zc1 (F_J6_bitCount_0f7a4 c_possible) (fun v12 => bd (if v10 < (v12 - v10) then (v12 - v10) else v10) (fun v14 => if x2 ≤ v14 then (bd (x3 + (1 : Int32)) (fun v16 => ag4 x1 x2 v16)) else (bd (x3 + (1 : Int32)) (fun v17 => ag4 x3 v14 v17)))))))))) FU (-1 : Int32) (25 : Int32) (0 : Int32)
abbrev rm_X0_surestYard : Room := { frames := 3, cells := 0, slots := 0, locals := 86 }
theorem kd_X0_surestYard : yX0_surestYard.cls = RX0 ∧ yX0_surestYard.cls ≠ "java/lang/invoke/MethodHandle" ∧ yX0_surestYard.cls ≠ "java/lang/invoke/VarHandle" ∧ (parseMethodDescriptor yX0_surestYard.desc).map (fun d => d.parameters.length) = some 1 := by decide +kernel
set_option maxRecDepth 100000 in
set_option maxHeartbeats 4000000 in
theorem A_X0_surestYard (l : Launch) (D : va_G) (cB cI cJ cZ : ClassId) (ad : (Nat → Nat) × (Nat → Nat)) (a_c : Nat) (c_yards : Int32) (c_count : Int32) (c_possible : Int32) (p1 : Int32) (r : Int32) (hF : F_X0_surestYard c_yards c_possible p1 = some r) : kM l yX0_surestYard (Cond.code yX0_surestYard cX0_surestYard 7 (some .int) :: W0) rm_X0_surestYard D (kT cB cI cJ cZ) ad [.ref a_c, .int p1] [(a_c, .inr (0, [.int c_yards, .int c_count, .int c_possible]))] (some (.int r)) [(a_c, .inr (0, [.int c_yards, .int c_count, .int c_possible]))] := by
  unfold F_X0_surestYard at hF
  refine kStart (lv := [(0, .ref a_c), (1, .int p1)]) (own := "DikeWatch$Clues") (plainFor_of_name (by decide)) rfl (Nat.le_of_ble_eq_true rfl) rfl ?_
  intro p e s m args below meth c A Q ls hQ C hx hb hw hl
  refine lv_iconst (v := (-1 : Int32)) hx hb (dq dt_X0_surestYard 0 rfl) (by decide) ?_
  refine lv_istore_n (lv' := [(2, .int (-1 : Int32)), (0, .ref a_c), (1, .int p1)]) hx hb (dq dt_X0_surestYard 1 rfl) rfl hl (by decide) rfl (fun ls hl => ?_)
  refine lv_bipush (v := (25 : Int32)) hx hb (dq dt_X0_surestYard 2 rfl) (by decide) ?_
  refine lv_istore_n (lv' := [(3, .int (25 : Int32)), (2, .int (-1 : Int32)), (0, .ref a_c), (1, .int p1)]) hx hb (dq dt_X0_surestYard 3 rfl) rfl hl (by decide) rfl (fun ls hl => ?_)
  refine lv_iconst (v := (0 : Int32)) hx hb (dq dt_X0_surestYard 4 rfl) (by decide) ?_
  refine lv_istore (lv' := [(4, .int (0 : Int32)), (3, .int (25 : Int32)), (2, .int (-1 : Int32)), (0, .ref a_c), (1, .int p1)]) hx hb (dq dt_X0_surestYard 5 rfl) hl (by decide) rfl (fun ls hl => ?_)
  obtain ⟨K4, hK04, hK4, hF⟩ := zl3_ hF
  have L4 : ∀ (n : Nat) (x1 : Int32) (x2 : Int32) (x3 : Int32), K4 n x1 x2 x3 = some r → ∀ (H : Heap) (locs : List Loc) (ls : Array Slot), kW D A s.heap [(a_c, .inr (0, [.int c_yards, .int c_count, .int c_possible]))] H locs → lv_has ls 7 [(0, .ref a_c), (1, .int p1), (2, .int x1), (3, .int x2), (4, .int x3)] → W p l e rm_X0_surestYard s m args below meth c H locs 0 0 Q (F0 m 8 ls []) := by
    intro n
    induction n with
    | zero => intro x1 x2 x3 hF; exact (lp_no (hK04 x1 x2 x3) hF).elim
    | succ n ih4 =>
      intro x1 x2 x3 hF H locs ls hw hl
      replace hF := hK4 n x1 x2 x3 hF
      refine lv_iload hx hb (dq dt_X0_surestYard 6 rfl) (lv_at hl 4 rfl) ?_
      refine lv_aload_n hx hb (dq dt_X0_surestYard 7 rfl) rfl (lv_at hl 0 rfl) ?_
      refine kGet (ci := 0) C in_X0 hw 0 rfl rfl 0 (by decide) (C.2.2.2.2.2.2.1 _ q2_10) rfl rfl (dq dt_X0_surestYard 8 rfl) ?_
      refine lv_icmp_ge (tgt := 76) hx hb (dq dt_X0_surestYard 9 rfl) (by decide) (fun c5 => ?_) (fun c5 => ?_)
      · replace hF := if_t c5 hF
        refine lv_iload_n hx hb (dq dt_X0_surestYard 39 rfl) rfl (lv_at hl 2 rfl) ?_
        cases hF
        exact kRetI hQ C hw (dq dt_X0_surestYard 40 rfl)
      · replace hF := if_f c5 hF
        refine lv_aload_n hx hb (dq dt_X0_surestYard 10 rfl) rfl (lv_at hl 0 rfl) ?_
        refine kGet (ci := 0) C in_X0 hw 0 rfl rfl 2 (by decide) (C.2.2.2.2.2.2.1 _ q2_13) rfl rfl (dq dt_X0_surestYard 11 rfl) ?_
        refine lv_if_eq (tgt := 76) hx hb (dq dt_X0_surestYard 12 rfl) (by decide) (fun c6 => ?_) (fun c6 => ?_)
        · replace hF := if_t c6 hF
          refine lv_iload_n hx hb (dq dt_X0_surestYard 39 rfl) rfl (lv_at hl 2 rfl) ?_
          cases hF
          exact kRetI hQ C hw (dq dt_X0_surestYard 40 rfl)
        · replace hF := if_f c6 hF
          refine lv_aload_n hx hb (dq dt_X0_surestYard 13 rfl) rfl (lv_at hl 0 rfl) ?_
          refine kGet (ci := 0) C in_X0 hw 0 rfl rfl 2 (by decide) (C.2.2.2.2.2.2.1 _ q2_13) rfl rfl (dq dt_X0_surestYard 14 rfl) ?_
          refine lv_aload_n hx hb (dq dt_X0_surestYard 15 rfl) rfl (lv_at hl 0 rfl) ?_
          refine lv_iload hx hb (dq dt_X0_surestYard 16 rfl) (lv_at hl 4 rfl) ?_
          refine lv_iload_n hx hb (dq dt_X0_surestYard 17 rfl) rfl (lv_at hl 1 rfl) ?_
          obtain ⟨v7, hr8, hF⟩ := zc1_ hF
          refine kCallVR C hw (A_X0_yardsInEar l D cB cI cJ cZ ad a_c c_yards c_count c_possible x3 p1 v7 hr8) (cwV 2 C.2.2.2.2.2.2.1 (w0_V0 q4_50 q4_81 q4_48 q4_49 q1_9) rfl rfl rfl kd_X0_yardsInEar ⟨Nat.le_of_ble_eq_true rfl, Nat.le_of_ble_eq_true rfl⟩) [0] rfl rfl 0 0 rfl rfl hl.1 rfl rfl rfl (Nat.le_of_ble_eq_true rfl) ⟨Nat.le_of_ble_eq_true rfl, Nat.le_of_ble_eq_true rfl⟩ (dq dt_X0_surestYard 18 rfl) (fun H locs hw => ?_)
          refine lv_iand hx hb (dq dt_X0_surestYard 19 rfl) ?_
          obtain ⟨v9, ev9, hF⟩ := bd_ hF
          refine kNmI ev9 ?_
          obtain ⟨v10, hr11, hF⟩ := zc1_ hF
          refine kCallSP C hw (A_J6_bitCount_0f7a4 l D cB cI cJ cZ ad v9 v10 hr11) (va_cwS 1 C.2.2.2.2.2.2.1 (w0_S0 q3_207 q4_82 q3_206 q1_18) rfl rfl rfl ke_J6_bitCount_0f7a4 ⟨Nat.le_of_ble_eq_true rfl, Nat.le_of_ble_eq_true rfl⟩) hl.1 rfl rfl rfl (Nat.le_of_ble_eq_true rfl) ⟨Nat.le_of_ble_eq_true rfl, Nat.le_of_ble_eq_true rfl⟩ (dq dt_X0_surestYard 20 rfl) (fun H locs hw => ?_)
          refine lv_istore (lv' := [(5, .int v10), (0, .ref a_c), (1, .int p1), (2, .int x1), (3, .int x2), (4, .int x3)]) hx hb (dq dt_X0_surestYard 21 rfl) hl (by decide) rfl (fun ls hl => ?_)
          refine lv_iload hx hb (dq dt_X0_surestYard 22 rfl) (lv_at hl 0 rfl) ?_
          refine lv_aload_n hx hb (dq dt_X0_surestYard 23 rfl) rfl (lv_at hl 1 rfl) ?_
          refine kGet (ci := 0) C in_X0 hw 0 rfl rfl 2 (by decide) (C.2.2.2.2.2.2.1 _ q2_13) rfl rfl (dq dt_X0_surestYard 24 rfl) ?_
          obtain ⟨v12, hr13, hF⟩ := zc1_ hF
          refine kCallSP C hw (A_J6_bitCount_0f7a4 l D cB cI cJ cZ ad c_possible v12 hr13) (va_cwS 1 C.2.2.2.2.2.2.1 (w0_S0 q3_207 q4_82 q3_206 q1_18) rfl rfl rfl ke_J6_bitCount_0f7a4 ⟨Nat.le_of_ble_eq_true rfl, Nat.le_of_ble_eq_true rfl⟩) hl.1 rfl rfl rfl (Nat.le_of_ble_eq_true rfl) ⟨Nat.le_of_ble_eq_true rfl, Nat.le_of_ble_eq_true rfl⟩ (dq dt_X0_surestYard 25 rfl) (fun H locs hw => ?_)
          refine lv_iload hx hb (dq dt_X0_surestYard 26 rfl) (lv_at hl 0 rfl) ?_
          refine lv_isub hx hb (dq dt_X0_surestYard 27 rfl) ?_
          refine va_mmax hx hb (C.2.2.1.trans hl.1.symm) C.2.2.2.2.2.1 (C.2.2.2.2.2.2.1 _ q4_83) (C.2.2.2.2.2.2.1 _ q3_32) (C.2.2.2.2.2.2.1 _ q1_17) (C.2.2.2.2.2.2.1 _ q3_33) (Nat.le_of_ble_eq_true rfl) (Nat.le_of_ble_eq_true rfl) (Nat.le_of_ble_eq_true rfl) (Nat.le_of_ble_eq_true rfl) (dq dt_X0_surestYard 28 rfl) ?_
          obtain ⟨v14, ev14, hF⟩ := bd_ hF
          refine kNmI ev14 ?_
          refine lv_istore (lv' := [(6, .int v14), (5, .int v10), (0, .ref a_c), (1, .int p1), (2, .int x1), (3, .int x2), (4, .int x3)]) hx hb (dq dt_X0_surestYard 29 rfl) hl (by decide) rfl (fun ls hl => ?_)
          refine lv_iload hx hb (dq dt_X0_surestYard 30 rfl) (lv_at hl 0 rfl) ?_
          refine lv_iload_n hx hb (dq dt_X0_surestYard 31 rfl) rfl (lv_at hl 5 rfl) ?_
          refine lv_icmp_ge (tgt := 70) hx hb (dq dt_X0_surestYard 32 rfl) (by decide) (fun c15 => ?_) (fun c15 => ?_)
          · replace hF := if_t c15 hF
            obtain ⟨v16, ev16, hF⟩ := bd_ hF
            refine lv_iinc (v := v16) (lv' := [(4, .int v16), (6, .int v14), (5, .int v10), (0, .ref a_c), (1, .int p1), (2, .int x1), (3, .int x2)]) hx hb (dq dt_X0_surestYard 37 rfl) hl (k := 6) rfl ev16.symm (by decide) rfl (fun ls hl => ?_)
            refine lv_goto (tgt := 8) hx hb (dq dt_X0_surestYard 38 rfl) (by decide) ?_
            exact ih4 x1 x2 v16 hF _ _ _ hw (lv_sub hl [3, 4, 5, 6, 0] rfl)
          · replace hF := if_f c15 hF
            refine lv_iload hx hb (dq dt_X0_surestYard 33 rfl) (lv_at hl 6 rfl) ?_
            refine lv_istore_n (lv' := [(2, .int x3), (6, .int v14), (5, .int v10), (0, .ref a_c), (1, .int p1), (3, .int x2), (4, .int x3)]) hx hb (dq dt_X0_surestYard 34 rfl) rfl hl (by decide) rfl (fun ls hl => ?_)
            refine lv_iload hx hb (dq dt_X0_surestYard 35 rfl) (lv_at hl 1 rfl) ?_
            refine lv_istore_n (lv' := [(3, .int v14), (2, .int x3), (6, .int v14), (5, .int v10), (0, .ref a_c), (1, .int p1), (4, .int x3)]) hx hb (dq dt_X0_surestYard 36 rfl) rfl hl (by decide) rfl (fun ls hl => ?_)
            obtain ⟨v17, ev17, hF⟩ := bd_ hF
            refine lv_iinc (v := v17) (lv' := [(4, .int v17), (3, .int v14), (2, .int x3), (6, .int v14), (5, .int v10), (0, .ref a_c), (1, .int p1)]) hx hb (dq dt_X0_surestYard 37 rfl) hl (k := 6) rfl ev17.symm (by decide) rfl (fun ls hl => ?_)
            refine lv_goto (tgt := 8) hx hb (dq dt_X0_surestYard 38 rfl) (by decide) ?_
            exact ih4 x3 v14 v17 hF _ _ _ hw (lv_sub hl [5, 6, 2, 1, 0] rfl)
  exact L4 _ (-1 : Int32) (25 : Int32) (0 : Int32) hF _ _ _ hw (lv_sub hl [3, 4, 2, 1, 0] rfl)
def F_X8_next (c_yards : Int32) (c_possible : Int32) (p1 : Int32) : Option (Int32) :=
  zc1 (F_X8_isWithin p1 (0 : Int32) (9 : Int32)) (fun v1 => if v1 = 0 then (some (-3 : Int32)) else (zc1 (F_X0_surestYard c_yards c_possible p1) (fun v4 => some v4)))
abbrev rm_X8_next : Room := { frames := 4, cells := 0, slots := 0, locals := 112 }
theorem kd_X8_next : yX8_next.cls = RX8 ∧ yX8_next.cls ≠ "java/lang/invoke/MethodHandle" ∧ yX8_next.cls ≠ "java/lang/invoke/VarHandle" ∧ (parseMethodDescriptor yX8_next.desc).map (fun d => d.parameters.length) = some 1 := by decide +kernel
set_option maxRecDepth 100000 in
set_option maxHeartbeats 4000000 in
theorem A_X8_next (l : Launch) (D : va_G) (cB cI cJ cZ : ClassId) (ad : (Nat → Nat) × (Nat → Nat)) (a_d a_x a_t a_g a_r a_n a_k a_j a_f a_e a_z a_c : Nat) (d_keptBits : Int32) (c_yards : Int32) (c_count : Int32) (c_possible : Int32) (p1 : Int32) (r : Int32) (hF : F_X8_next c_yards c_possible p1 = some r) : kM l yX8_next (Cond.code yX8_next cX8_next 2 (some .int) :: W0) rm_X8_next D (kT cB cI cJ cZ) ad [.ref a_d, .int p1] [(a_d, .inr (8, [.ref a_x, .ref a_t, .ref a_g, .ref a_r, .ref a_n, .ref a_k, .ref a_j, .int d_keptBits, .ref a_f, .ref a_e, .ref a_z, .ref a_c])), (a_c, .inr (0, [.int c_yards, .int c_count, .int c_possible]))] (some (.int r)) [(a_d, .inr (8, [.ref a_x, .ref a_t, .ref a_g, .ref a_r, .ref a_n, .ref a_k, .ref a_j, .int d_keptBits, .ref a_f, .ref a_e, .ref a_z, .ref a_c])), (a_c, .inr (0, [.int c_yards, .int c_count, .int c_possible]))] := by
  unfold F_X8_next at hF
  refine kStart (lv := [(0, .ref a_d), (1, .int p1)]) (own := "DikeWatch") (plainFor_of_name (by decide)) rfl (Nat.le_of_ble_eq_true rfl) rfl ?_
  intro p e s m args below meth c A Q ls hQ C hx hb hw hl
  refine lv_iload_n hx hb (dq dt_X8_next 0 rfl) rfl (lv_at hl 1 rfl) ?_
  refine lv_iconst (v := (0 : Int32)) hx hb (dq dt_X8_next 1 rfl) (by decide) ?_
  refine lv_bipush (v := (9 : Int32)) hx hb (dq dt_X8_next 2 rfl) (by decide) ?_
  obtain ⟨v1, hr2, hF⟩ := zc1_ hF
  refine kCallSP C hw (A_X8_isWithin l D cB cI cJ cZ ad p1 (0 : Int32) (9 : Int32) v1 hr2) (va_cwS 3 C.2.2.2.2.2.2.1 (w0_S0 q2_65 q2_63 q2_64 q1_1) rfl rfl rfl ke_X8_isWithin ⟨Nat.le_of_ble_eq_true rfl, Nat.le_of_ble_eq_true rfl⟩) hl.1 rfl rfl rfl (Nat.le_of_ble_eq_true rfl) ⟨Nat.le_of_ble_eq_true rfl, Nat.le_of_ble_eq_true rfl⟩ (dq dt_X8_next 3 rfl) (fun H locs hw => ?_)
  refine lv_if_eq (tgt := 21) hx hb (dq dt_X8_next 4 rfl) (by decide) (fun c3 => ?_) (fun c3 => ?_)
  · replace hF := if_t c3 hF
    refine lv_bipush (v := (-3 : Int32)) hx hb (dq dt_X8_next 10 rfl) (by decide) ?_
    cases hF
    exact kRetI hQ C hw (dq dt_X8_next 11 rfl)
  · replace hF := if_f c3 hF
    refine lv_aload_n hx hb (dq dt_X8_next 5 rfl) rfl (lv_at hl 0 rfl) ?_
    refine kGet (ci := 8) C in_X8 hw 0 rfl rfl 11 (by decide) (C.2.2.2.2.2.2.1 _ q2_33) rfl rfl (dq dt_X8_next 6 rfl) ?_
    refine lv_iload_n hx hb (dq dt_X8_next 7 rfl) rfl (lv_at hl 1 rfl) ?_
    obtain ⟨v4, hr5, hF⟩ := zc1_ hF
    refine kCallVR C hw (A_X0_surestYard l D cB cI cJ cZ ad a_c c_yards c_count c_possible p1 v4 hr5) (cwV 1 C.2.2.2.2.2.2.1 (w0_V0 q4_80 q4_77 q4_78 q4_79 q1_9) rfl rfl rfl kd_X0_surestYard ⟨Nat.le_of_ble_eq_true rfl, Nat.le_of_ble_eq_true rfl⟩) [1] rfl rfl 1 0 rfl rfl hl.1 rfl rfl rfl (Nat.le_of_ble_eq_true rfl) ⟨Nat.le_of_ble_eq_true rfl, Nat.le_of_ble_eq_true rfl⟩ (dq dt_X8_next 8 rfl) (fun H locs hw => ?_)
    refine lv_goto (tgt := 23) hx hb (dq dt_X8_next 9 rfl) (by decide) ?_
    cases hF
    exact kRetI hQ C hw (dq dt_X8_next 11 rfl)
def F_X8_count (x_length : Int32) (t_yards : Int32) (t_seeps : Int32) (t_children : Int32) (n_hours : Int32) (n_filled : Int32) (n_size : Nat → Int32) (c_count : Int32) (p1 : Int32) : Option (Int32) :=
  if p1 = (0 : Int32) then (some t_yards) else (if p1 = (1 : Int32) then (some t_seeps) else (if p1 = (2 : Int32) then (some t_children) else (if p1 = (3 : Int32) then (some n_hours) else (if p1 = (4 : Int32) then (some n_filled) else (if p1 = (5 : Int32) then (zc1 (F_X3_brokenSeeps t_seeps n_size) (fun v7 => some v7)) else (if p1 = (6 : Int32) then (some c_count) else (if p1 = (7 : Int32) then (some x_length) else (some (-3 : Int32)))))))))
abbrev rm_X8_count : Room := { frames := 1, cells := 0, slots := 0, locals := 22 }
theorem kd_X8_count : yX8_count.cls = RX8 ∧ yX8_count.cls ≠ "java/lang/invoke/MethodHandle" ∧ yX8_count.cls ≠ "java/lang/invoke/VarHandle" ∧ (parseMethodDescriptor yX8_count.desc).map (fun d => d.parameters.length) = some 1 := by decide +kernel
set_option maxRecDepth 100000 in
set_option maxHeartbeats 4000000 in
theorem A_X8_count (l : Launch) (D : va_G) (cB cI cJ cZ : ClassId) (ad : (Nat → Nat) × (Nat → Nat)) (a_d a_x a_t a_g a_r a_n a_k a_j a_f a_e a_z a_c a_x_signs a_t_tides a_t_seepYard a_t_seepSize a_t_growth a_t_level a_t_kind a_t_childYard a_t_pace a_t_ear a_n_size a_n_yard a_n_oranges : Nat) (d_keptBits : Int32) (x_length : Int32) (t_yards : Int32) (t_seeps : Int32) (t_children : Int32) (n_hours : Int32) (n_filled : Int32) (n_toLesser : Int32) (n_size : Nat → Int32) (c_yards : Int32) (c_count : Int32) (c_possible : Int32) (p1 : Int32) (r : Int32) (hF : F_X8_count x_length t_yards t_seeps t_children n_hours n_filled n_size c_count p1 = some r) : kM l yX8_count (Cond.code yX8_count cX8_count 2 (some .int) :: W0) rm_X8_count D (kT cB cI cJ cZ) ad [.ref a_d, .int p1] [(a_d, .inr (8, [.ref a_x, .ref a_t, .ref a_g, .ref a_r, .ref a_n, .ref a_k, .ref a_j, .int d_keptBits, .ref a_f, .ref a_e, .ref a_z, .ref a_c])), (a_x, .inr (6, [.ref a_x_signs, .int x_length])), (a_t, .inr (7, [.int t_yards, .ref a_t_tides, .int t_seeps, .ref a_t_seepYard, .ref a_t_seepSize, .ref a_t_growth, .ref a_t_level, .int t_children, .ref a_t_kind, .ref a_t_childYard, .ref a_t_pace, .ref a_t_ear])), (a_n, .inr (3, [.ref a_t, .int n_hours, .int n_filled, .ref a_n_size, .ref a_n_yard, .int n_toLesser, .ref a_n_oranges])), (a_n_size, .inl (cI, 6, .inl n_size)), (a_c, .inr (0, [.int c_yards, .int c_count, .int c_possible]))] (some (.int r)) [(a_d, .inr (8, [.ref a_x, .ref a_t, .ref a_g, .ref a_r, .ref a_n, .ref a_k, .ref a_j, .int d_keptBits, .ref a_f, .ref a_e, .ref a_z, .ref a_c])), (a_x, .inr (6, [.ref a_x_signs, .int x_length])), (a_t, .inr (7, [.int t_yards, .ref a_t_tides, .int t_seeps, .ref a_t_seepYard, .ref a_t_seepSize, .ref a_t_growth, .ref a_t_level, .int t_children, .ref a_t_kind, .ref a_t_childYard, .ref a_t_pace, .ref a_t_ear])), (a_n, .inr (3, [.ref a_t, .int n_hours, .int n_filled, .ref a_n_size, .ref a_n_yard, .int n_toLesser, .ref a_n_oranges])), (a_n_size, .inl (cI, 6, .inl n_size)), (a_c, .inr (0, [.int c_yards, .int c_count, .int c_possible]))] := by
  unfold F_X8_count at hF
  refine kStart (lv := [(0, .ref a_d), (1, .int p1)]) (own := "DikeWatch") (plainFor_of_name (by decide)) rfl (Nat.le_of_ble_eq_true rfl) rfl ?_
  intro p e s m args below meth c A Q ls hQ C hx hb hw hl
  refine lv_iload_n hx hb (dq dt_X8_count 0 rfl) rfl (lv_at hl 1 rfl) ?_
  by_cases c1 : p1 = (0 : Int32)
  · replace hF := if_t c1 hF
    refine lv_tableIn (lo := 0) (hi := 7) (tgt := 48) hx hb (dq dt_X8_count 1 rfl) (by rw [c1]; decide) (by rw [c1]; decide) (by rw [c1]; rfl) (by decide) ?_
    refine lv_aload_n hx hb (dq dt_X8_count 2 rfl) rfl (lv_at hl 0 rfl) ?_
    refine kGet (ci := 8) C in_X8 hw 0 rfl rfl 1 (by decide) (C.2.2.2.2.2.2.1 _ q2_23) rfl rfl (dq dt_X8_count 3 rfl) ?_
    refine kGet (ci := 7) C in_X7 hw 2 rfl rfl 0 (by decide) (C.2.2.2.2.2.2.1 _ q1_50) rfl rfl (dq dt_X8_count 4 rfl) ?_
    cases hF
    exact kRetI hQ C hw (dq dt_X8_count 5 rfl)
  replace hF := if_f c1 hF
  by_cases c2 : p1 = (1 : Int32)
  · replace hF := if_t c2 hF
    refine lv_tableIn (lo := 0) (hi := 7) (tgt := 56) hx hb (dq dt_X8_count 1 rfl) (by rw [c2]; decide) (by rw [c2]; decide) (by rw [c2]; rfl) (by decide) ?_
    refine lv_aload_n hx hb (dq dt_X8_count 6 rfl) rfl (lv_at hl 0 rfl) ?_
    refine kGet (ci := 8) C in_X8 hw 0 rfl rfl 1 (by decide) (C.2.2.2.2.2.2.1 _ q2_23) rfl rfl (dq dt_X8_count 7 rfl) ?_
    refine kGet (ci := 7) C in_X7 hw 2 rfl rfl 2 (by decide) (C.2.2.2.2.2.2.1 _ q1_61) rfl rfl (dq dt_X8_count 8 rfl) ?_
    cases hF
    exact kRetI hQ C hw (dq dt_X8_count 9 rfl)
  replace hF := if_f c2 hF
  by_cases c3 : p1 = (2 : Int32)
  · replace hF := if_t c3 hF
    refine lv_tableIn (lo := 0) (hi := 7) (tgt := 64) hx hb (dq dt_X8_count 1 rfl) (by rw [c3]; decide) (by rw [c3]; decide) (by rw [c3]; rfl) (by decide) ?_
    refine lv_aload_n hx hb (dq dt_X8_count 10 rfl) rfl (lv_at hl 0 rfl) ?_
    refine kGet (ci := 8) C in_X8 hw 0 rfl rfl 1 (by decide) (C.2.2.2.2.2.2.1 _ q2_23) rfl rfl (dq dt_X8_count 11 rfl) ?_
    refine kGet (ci := 7) C in_X7 hw 2 rfl rfl 7 (by decide) (C.2.2.2.2.2.2.1 _ q1_76) rfl rfl (dq dt_X8_count 12 rfl) ?_
    cases hF
    exact kRetI hQ C hw (dq dt_X8_count 13 rfl)
  replace hF := if_f c3 hF
  by_cases c4 : p1 = (3 : Int32)
  · replace hF := if_t c4 hF
    refine lv_tableIn (lo := 0) (hi := 7) (tgt := 72) hx hb (dq dt_X8_count 1 rfl) (by rw [c4]; decide) (by rw [c4]; decide) (by rw [c4]; rfl) (by decide) ?_
    refine lv_aload_n hx hb (dq dt_X8_count 14 rfl) rfl (lv_at hl 0 rfl) ?_
    refine kGet (ci := 8) C in_X8 hw 0 rfl rfl 4 (by decide) (C.2.2.2.2.2.2.1 _ q2_26) rfl rfl (dq dt_X8_count 15 rfl) ?_
    refine kGet (ci := 3) C in_X3 hw 3 rfl rfl 1 (by decide) (C.2.2.2.2.2.2.1 _ q1_122) rfl rfl (dq dt_X8_count 16 rfl) ?_
    cases hF
    exact kRetI hQ C hw (dq dt_X8_count 17 rfl)
  replace hF := if_f c4 hF
  by_cases c5 : p1 = (4 : Int32)
  · replace hF := if_t c5 hF
    refine lv_tableIn (lo := 0) (hi := 7) (tgt := 80) hx hb (dq dt_X8_count 1 rfl) (by rw [c5]; decide) (by rw [c5]; decide) (by rw [c5]; rfl) (by decide) ?_
    refine lv_aload_n hx hb (dq dt_X8_count 18 rfl) rfl (lv_at hl 0 rfl) ?_
    refine kGet (ci := 8) C in_X8 hw 0 rfl rfl 4 (by decide) (C.2.2.2.2.2.2.1 _ q2_26) rfl rfl (dq dt_X8_count 19 rfl) ?_
    refine kGet (ci := 3) C in_X3 hw 3 rfl rfl 2 (by decide) (C.2.2.2.2.2.2.1 _ q1_124) rfl rfl (dq dt_X8_count 20 rfl) ?_
    cases hF
    exact kRetI hQ C hw (dq dt_X8_count 21 rfl)
  replace hF := if_f c5 hF
  by_cases c6 : p1 = (5 : Int32)
  · replace hF := if_t c6 hF
    refine lv_tableIn (lo := 0) (hi := 7) (tgt := 88) hx hb (dq dt_X8_count 1 rfl) (by rw [c6]; decide) (by rw [c6]; decide) (by rw [c6]; rfl) (by decide) ?_
    refine lv_aload_n hx hb (dq dt_X8_count 22 rfl) rfl (lv_at hl 0 rfl) ?_
    refine kGet (ci := 8) C in_X8 hw 0 rfl rfl 4 (by decide) (C.2.2.2.2.2.2.1 _ q2_26) rfl rfl (dq dt_X8_count 23 rfl) ?_
    obtain ⟨v7, hr8, hF⟩ := zc1_ hF
    refine kCallVR C hw (A_X3_brokenSeeps l D cB cI cJ cZ ad a_t a_t_tides a_t_seepYard a_t_seepSize a_t_growth a_t_level a_t_kind a_t_childYard a_t_pace a_t_ear a_n a_n_size a_n_yard a_n_oranges t_yards t_seeps t_children n_hours n_filled n_toLesser n_size v7 hr8) (cwV 0 C.2.2.2.2.2.2.1 (w0_V0 q3_117 q4_88 q3_115 q3_116 q1_4) rfl rfl rfl kd_X3_brokenSeeps ⟨Nat.le_of_ble_eq_true rfl, Nat.le_of_ble_eq_true rfl⟩) [2, 3, 4] rfl rfl 3 3 rfl rfl hl.1 rfl rfl rfl (Nat.le_of_ble_eq_true rfl) ⟨Nat.le_of_ble_eq_true rfl, Nat.le_of_ble_eq_true rfl⟩ (dq dt_X8_count 24 rfl) (fun H locs hw => ?_)
    cases hF
    exact kRetI hQ C hw (dq dt_X8_count 25 rfl)
  replace hF := if_f c6 hF
  by_cases c9 : p1 = (6 : Int32)
  · replace hF := if_t c9 hF
    refine lv_tableIn (lo := 0) (hi := 7) (tgt := 96) hx hb (dq dt_X8_count 1 rfl) (by rw [c9]; decide) (by rw [c9]; decide) (by rw [c9]; rfl) (by decide) ?_
    refine lv_aload_n hx hb (dq dt_X8_count 26 rfl) rfl (lv_at hl 0 rfl) ?_
    refine kGet (ci := 8) C in_X8 hw 0 rfl rfl 11 (by decide) (C.2.2.2.2.2.2.1 _ q2_33) rfl rfl (dq dt_X8_count 27 rfl) ?_
    refine kGet (ci := 0) C in_X0 hw 5 rfl rfl 1 (by decide) (C.2.2.2.2.2.2.1 _ q2_12) rfl rfl (dq dt_X8_count 28 rfl) ?_
    cases hF
    exact kRetI hQ C hw (dq dt_X8_count 29 rfl)
  replace hF := if_f c9 hF
  by_cases c10 : p1 = (7 : Int32)
  · replace hF := if_t c10 hF
    refine lv_tableIn (lo := 0) (hi := 7) (tgt := 104) hx hb (dq dt_X8_count 1 rfl) (by rw [c10]; decide) (by rw [c10]; decide) (by rw [c10]; rfl) (by decide) ?_
    refine lv_aload_n hx hb (dq dt_X8_count 30 rfl) rfl (lv_at hl 0 rfl) ?_
    refine kGet (ci := 8) C in_X8 hw 0 rfl rfl 0 (by decide) (C.2.2.2.2.2.2.1 _ q2_22) rfl rfl (dq dt_X8_count 31 rfl) ?_
    refine kGet (ci := 6) C in_X6 hw 1 rfl rfl 1 (by decide) (C.2.2.2.2.2.2.1 _ q1_35) rfl rfl (dq dt_X8_count 32 rfl) ?_
    cases hF
    exact kRetI hQ C hw (dq dt_X8_count 33 rfl)
  replace hF := if_f c10 hF
  refine lv_tableOut (lo := 0) (hi := 7) (tgt := 112) hx hb (dq dt_X8_count 1 rfl) (tb_out (n := 8) (by decide) (fun i hi => by match i, hi with | 0, _ => exact c1 | 1, _ => exact c2 | 2, _ => exact c3 | 3, _ => exact c4 | 4, _ => exact c5 | 5, _ => exact c6 | 6, _ => exact c9 | 7, _ => exact c10 | i + 8, hi => exact absurd hi (by omega))) (by decide) ?_
  refine lv_bipush (v := (-3 : Int32)) hx hb (dq dt_X8_count 34 rfl) (by decide) ?_
  cases hF
  exact kRetI hQ C hw (dq dt_X8_count 35 rfl)
def F_X9_in (p1 : Int64) (p2 : Int64) (p3 : Int64) : Option (Int32) :=
  if (lg_cmp p1 p2) < 0 then (some (0 : Int32)) else (if 0 < (lg_cmp p1 p3) then (some (0 : Int32)) else (some (1 : Int32)))
abbrev rm_X9_in : Room := { frames := 0, cells := 0, slots := 0, locals := 0 }
theorem ke_X9_in : yX9_in.cls ≠ "java/lang/invoke/MethodHandle" ∧ yX9_in.cls ≠ "java/lang/invoke/VarHandle" ∧ (parseMethodDescriptor yX9_in.desc).map (fun d => d.parameters.length) = some 3 := by decide +kernel
set_option maxRecDepth 100000 in
set_option maxHeartbeats 4000000 in
theorem A_X9_in (l : Launch) (D : va_G) (cB cI cJ cZ : ClassId) (ad : (Nat → Nat) × (Nat → Nat)) (p1 : Int64) (p2 : Int64) (p3 : Int64) (r : Int32) (hF : F_X9_in p1 p2 p3 = some r) : kM l yX9_in (Cond.code yX9_in cX9_in 6 (some .boolean) :: W0) rm_X9_in D (kT cB cI cJ cZ) ad [.long p1, .long p2, .long p3] [] (some (.int r)) [] := by
  unfold F_X9_in at hF
  refine kStart (lv := [(0, .long p1), (2, .long p2), (4, .long p3)]) (own := "DikeWatchModel") (plainFor_of_name (by decide)) rfl (Nat.le_of_ble_eq_true rfl) rfl ?_
  intro p e s m args below meth c A Q ls hQ C hx hb hw hl
  refine lv_lload_n hx hb (dq dt_X9_in 0 rfl) rfl (lv_at hl 0 rfl) ?_
  refine lv_lload_n hx hb (dq dt_X9_in 1 rfl) rfl (lv_at hl 1 rfl) ?_
  refine W.lcmp hx hb (dq dt_X9_in 2 rfl) ?_
  refine lv_if_lt (tgt := 17) hx hb (dq dt_X9_in 3 rfl) (by decide) (fun c1 => ?_) (fun c1 => ?_)
  · replace hF := if_t c1 hF
    refine lv_iconst (v := (0 : Int32)) hx hb (dq dt_X9_in 10 rfl) (by decide) ?_
    cases hF
    exact kRetZ hQ C rfl hw (dq dt_X9_in 11 rfl)
  · replace hF := if_f c1 hF
    refine lv_lload_n hx hb (dq dt_X9_in 4 rfl) rfl (lv_at hl 0 rfl) ?_
    refine lv_lload hx hb (dq dt_X9_in 5 rfl) (lv_at hl 2 rfl) ?_
    refine W.lcmp hx hb (dq dt_X9_in 6 rfl) ?_
    refine lv_if_gt (tgt := 17) hx hb (dq dt_X9_in 7 rfl) (by decide) (fun c2 => ?_) (fun c2 => ?_)
    · replace hF := if_t c2 hF
      refine lv_iconst (v := (0 : Int32)) hx hb (dq dt_X9_in 10 rfl) (by decide) ?_
      cases hF
      exact kRetZ hQ C rfl hw (dq dt_X9_in 11 rfl)
    · replace hF := if_f c2 hF
      refine lv_iconst (v := (1 : Int32)) hx hb (dq dt_X9_in 8 rfl) (by decide) ?_
      refine lv_goto (tgt := 18) hx hb (dq dt_X9_in 9 rfl) (by decide) ?_
      cases hF
      exact kRetZ hQ C rfl hw (dq dt_X9_in 11 rfl)
def F_X9_has (p1 : Int32) (p2 : Int32) : Option (Int32) :=
  if ((p1 >>> (p2 &&& 31)) &&& (1 : Int32)) = (1 : Int32) then (some (1 : Int32)) else (some (0 : Int32))
abbrev rm_X9_has : Room := { frames := 0, cells := 0, slots := 0, locals := 0 }
theorem ke_X9_has : yX9_has.cls ≠ "java/lang/invoke/MethodHandle" ∧ yX9_has.cls ≠ "java/lang/invoke/VarHandle" ∧ (parseMethodDescriptor yX9_has.desc).map (fun d => d.parameters.length) = some 2 := by decide +kernel
set_option maxRecDepth 100000 in
set_option maxHeartbeats 4000000 in
theorem A_X9_has (l : Launch) (D : va_G) (cB cI cJ cZ : ClassId) (ad : (Nat → Nat) × (Nat → Nat)) (p1 : Int32) (p2 : Int32) (r : Int32) (hF : F_X9_has p1 p2 = some r) : kM l yX9_has (Cond.code yX9_has cX9_has 2 (some .boolean) :: W0) rm_X9_has D (kT cB cI cJ cZ) ad [.int p1, .int p2] [] (some (.int r)) [] := by
  unfold F_X9_has at hF
  refine kStart (lv := [(0, .int p1), (1, .int p2)]) (own := "DikeWatchModel") (plainFor_of_name (by decide)) rfl (Nat.le_of_ble_eq_true rfl) rfl ?_
  intro p e s m args below meth c A Q ls hQ C hx hb hw hl
  refine lv_iload_n hx hb (dq dt_X9_has 0 rfl) rfl (lv_at hl 0 rfl) ?_
  refine lv_iload_n hx hb (dq dt_X9_has 1 rfl) rfl (lv_at hl 1 rfl) ?_
  refine lv_ishr hx hb (dq dt_X9_has 2 rfl) ?_
  refine lv_iconst (v := (1 : Int32)) hx hb (dq dt_X9_has 3 rfl) (by decide) ?_
  refine lv_iand hx hb (dq dt_X9_has 4 rfl) ?_
  refine lv_iconst (v := (1 : Int32)) hx hb (dq dt_X9_has 5 rfl) (by decide) ?_
  refine lv_icmp_ne (tgt := 13) hx hb (dq dt_X9_has 6 rfl) (by decide) (fun c1 => ?_) (fun c1 => ?_)
  · replace hF := if_f c1 hF
    refine lv_iconst (v := (0 : Int32)) hx hb (dq dt_X9_has 9 rfl) (by decide) ?_
    cases hF
    exact kRetZ hQ C rfl hw (dq dt_X9_has 10 rfl)
  · replace hF := if_t c1 hF
    refine lv_iconst (v := (1 : Int32)) hx hb (dq dt_X9_has 7 rfl) (by decide) ?_
    refine lv_goto (tgt := 14) hx hb (dq dt_X9_has 8 rfl) (by decide) ?_
    cases hF
    exact kRetZ hQ C rfl hw (dq dt_X9_has 10 rfl)
def F_X9_bits (p1 : Int32) : Option (Int32) :=
  zl2 (fun x1 x2 ag3 => if (24 : Int32) ≤ x2 then (some x1) else (bd (x1 + ((p1 >>> (x2 &&& 31)) &&& (1 : Int32))) (fun v5 => bd (x2 + (1 : Int32)) (fun v6 => ag3 v5 v6)))) FU (0 : Int32) (0 : Int32)
abbrev rm_X9_bits : Room := { frames := 0, cells := 0, slots := 0, locals := 0 }
theorem ke_X9_bits : yX9_bits.cls ≠ "java/lang/invoke/MethodHandle" ∧ yX9_bits.cls ≠ "java/lang/invoke/VarHandle" ∧ (parseMethodDescriptor yX9_bits.desc).map (fun d => d.parameters.length) = some 1 := by decide +kernel
set_option maxRecDepth 100000 in
set_option maxHeartbeats 4000000 in
theorem A_X9_bits (l : Launch) (D : va_G) (cB cI cJ cZ : ClassId) (ad : (Nat → Nat) × (Nat → Nat)) (p1 : Int32) (r : Int32) (hF : F_X9_bits p1 = some r) : kM l yX9_bits (Cond.code yX9_bits cX9_bits 3 (some .int) :: W0) rm_X9_bits D (kT cB cI cJ cZ) ad [.int p1] [] (some (.int r)) [] := by
  unfold F_X9_bits at hF
  refine kStart (lv := [(0, .int p1)]) (own := "DikeWatchModel") (plainFor_of_name (by decide)) rfl (Nat.le_of_ble_eq_true rfl) rfl ?_
  intro p e s m args below meth c A Q ls hQ C hx hb hw hl
  refine lv_iconst (v := (0 : Int32)) hx hb (dq dt_X9_bits 0 rfl) (by decide) ?_
  refine lv_istore_n (lv' := [(1, .int (0 : Int32)), (0, .int p1)]) hx hb (dq dt_X9_bits 1 rfl) rfl hl (by decide) rfl (fun ls hl => ?_)
  refine lv_iconst (v := (0 : Int32)) hx hb (dq dt_X9_bits 2 rfl) (by decide) ?_
  refine lv_istore_n (lv' := [(2, .int (0 : Int32)), (1, .int (0 : Int32)), (0, .int p1)]) hx hb (dq dt_X9_bits 3 rfl) rfl hl (by decide) rfl (fun ls hl => ?_)
  obtain ⟨K3, hK03, hK3, hF⟩ := zl2_ hF
  have L3 : ∀ (n : Nat) (x1 : Int32) (x2 : Int32), K3 n x1 x2 = some r → ∀ (H : Heap) (locs : List Loc) (ls : Array Slot), kW D A s.heap [] H locs → lv_has ls 3 [(0, .int p1), (1, .int x1), (2, .int x2)] → W p l e rm_X9_bits s m args below meth c H locs 0 0 Q (F0 m 4 ls []) := by
    intro n
    induction n with
    | zero => intro x1 x2 hF; exact (lp_no (hK03 x1 x2) hF).elim
    | succ n ih3 =>
      intro x1 x2 hF H locs ls hw hl
      replace hF := hK3 n x1 x2 hF
      refine lv_iload_n hx hb (dq dt_X9_bits 4 rfl) rfl (lv_at hl 2 rfl) ?_
      refine lv_bipush (v := (24 : Int32)) hx hb (dq dt_X9_bits 5 rfl) (by decide) ?_
      refine lv_icmp_ge (tgt := 24) hx hb (dq dt_X9_bits 6 rfl) (by decide) (fun c4 => ?_) (fun c4 => ?_)
      · replace hF := if_t c4 hF
        refine lv_iload_n hx hb (dq dt_X9_bits 17 rfl) rfl (lv_at hl 1 rfl) ?_
        cases hF
        exact kRetI hQ C hw (dq dt_X9_bits 18 rfl)
      · replace hF := if_f c4 hF
        refine lv_iload_n hx hb (dq dt_X9_bits 7 rfl) rfl (lv_at hl 1 rfl) ?_
        refine lv_iload_n hx hb (dq dt_X9_bits 8 rfl) rfl (lv_at hl 0 rfl) ?_
        refine lv_iload_n hx hb (dq dt_X9_bits 9 rfl) rfl (lv_at hl 2 rfl) ?_
        refine lv_ishr hx hb (dq dt_X9_bits 10 rfl) ?_
        refine lv_iconst (v := (1 : Int32)) hx hb (dq dt_X9_bits 11 rfl) (by decide) ?_
        refine lv_iand hx hb (dq dt_X9_bits 12 rfl) ?_
        refine lv_iadd hx hb (dq dt_X9_bits 13 rfl) ?_
        obtain ⟨v5, ev5, hF⟩ := bd_ hF
        refine kNmI ev5 ?_
        refine lv_istore_n (lv' := [(1, .int v5), (0, .int p1), (2, .int x2)]) hx hb (dq dt_X9_bits 14 rfl) rfl hl (by decide) rfl (fun ls hl => ?_)
        obtain ⟨v6, ev6, hF⟩ := bd_ hF
        refine lv_iinc (v := v6) (lv' := [(2, .int v6), (1, .int v5), (0, .int p1)]) hx hb (dq dt_X9_bits 15 rfl) hl (k := 2) rfl ev6.symm (by decide) rfl (fun ls hl => ?_)
        refine lv_goto (tgt := 4) hx hb (dq dt_X9_bits 16 rfl) (by decide) ?_
        exact ih3 v5 v6 hF _ _ _ hw (lv_sub hl [2, 1, 0] rfl)
  exact L3 _ (0 : Int32) (0 : Int32) hF _ _ _ hw (lv_sub hl [2, 1, 0] rfl)
