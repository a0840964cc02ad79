/-! ===== what the law stands on at its entry ===== -/
set_option maxRecDepth 100000 in
set_option maxHeartbeats 4000000 in
theorem st_K {args : Array Value} {s : State} (hts : ∀ w ∈ lw_tbl, w.before args s = true) : ∃ (D : va_G) (cB cI cJ cZ : ClassId), va_K D vwCl (kT cB cI cJ cZ) s := by
  have h0 : ∀ w ∈ W0, w.before args s = true := fun w h => hts w (W0_tbl h)
  obtain ⟨c0, i0, k0⟩ := u_known (C := RX0) (T := TX0) (N := 3) (n := 3) h0 in_X0 (h0 _ q2_5)
  obtain ⟨c1, i1, k1⟩ := u_known (C := RX1) (T := TX1) (N := 5) (n := 5) h0 in_X1 (h0 _ q1_149)
  obtain ⟨c2, i2, k2⟩ := u_known (C := RX2) (T := TX2) (N := 7) (n := 7) h0 in_X2 (h0 _ q1_197)
  obtain ⟨c3, i3, k3⟩ := u_known (C := RX3) (T := TX3) (N := 7) (n := 7) h0 in_X3 (h0 _ q1_114)
  obtain ⟨c4, i4, k4⟩ := u_known (C := RX4) (T := TX4) (N := 6) (n := 6) h0 in_X4 (h0 _ q1_171)
  obtain ⟨c5, i5, k5⟩ := u_known (C := RX5) (T := TX5) (N := 3) (n := 3) h0 in_X5 (h0 _ q1_226)
  obtain ⟨c6, i6, k6⟩ := u_known (C := RX6) (T := TX6) (N := 2) (n := 2) h0 in_X6 (h0 _ q1_28)
  obtain ⟨c7, i7, k7⟩ := u_known (C := RX7) (T := TX7) (N := 12) (n := 12) h0 in_X7 (h0 _ q1_44)
  obtain ⟨c8, i8, k8⟩ := u_known (C := RX8) (T := TX8) (N := 12) (n := 12) h0 in_X8 (h0 _ q1_20)
  obtain ⟨c9, i9, k9⟩ := u_known (C := RX9) (T := TX9) (N := 26) (n := 26) h0 in_X9 (h0 _ q4_90)
  obtain ⟨cB, kB, mB, B1, B2, B3⟩ := Cond.arrayClass_spec (h0 _ q1_42)
  obtain ⟨cI, kI, mI, I1, I2, I3⟩ := Cond.arrayClass_spec (h0 _ q1_112)
  obtain ⟨cJ, kJ, mJ, J1, J2, J3⟩ := Cond.arrayClass_spec (h0 _ q2_3)
  obtain ⟨cZ, kZ, mZ, Z1, Z2, Z3⟩ := Cond.arrayClass_spec (h0 _ q4_174)
  refine ⟨(fun k => [c0, c1, c2, c3, c4, c5, c6, c7, c8, c9].getD k c0, fun k => [i0, i1, i2, i3, i4, i5, i6, i7, i8, i9].getD k i0), cB, cI, cJ, cZ, fun k z hz => ?_, fun k z hz => ?_⟩
  · match k, hz with
    | 0, hz => cases hz; exact k0
    | 1, hz => cases hz; exact k1
    | 2, hz => cases hz; exact k2
    | 3, hz => cases hz; exact k3
    | 4, hz => cases hz; exact k4
    | 5, hz => cases hz; exact k5
    | 6, hz => cases hz; exact k6
    | 7, hz => cases hz; exact k7
    | 8, hz => cases hz; exact k8
    | 9, hz => cases hz; exact k9
    | k + 10, hz => simp [vwCl] at hz
  · match k, hz with
    | 0, hz => cases hz; exact ⟨fun n z => ⟨fun k h => (by cases h), kB, B2, mB, B3⟩, B1⟩
    | 1, hz => cases hz; exact ⟨fun n z => ⟨fun k h => (by cases h), kI, I2, mI, I3⟩, I1⟩
    | 2, hz => cases hz; exact ⟨fun n z => ⟨fun k h => (by cases h), kJ, J2, mJ, J3⟩, J1⟩
    | 3, hz => cases hz; exact ⟨fun n z => ⟨fun k h => (by cases h), kZ, Z2, mZ, Z3⟩, Z1⟩
    | k + 4, hz => simp [kT] at hz
theorem sm1 : ∀ i : Nat, i < 9 → Cond.exactly (Term.string "DikeWatch$Reader" (sIx.getD i 0)) "java/lang/String" ∈ flatC (Jvm.Cond.and given_1 narrow_1) := by decide +kernel
theorem sm2 : ∀ i : Nat, i < 9 → Cond.eq (.field (Term.string "DikeWatch$Reader" (sIx.getD i 0)) "java/lang/String" "coder" "B") (.int 0) ∈ flatC (Jvm.Cond.and given_1 narrow_1) := by decide +kernel
theorem sm3 : ∀ i : Nat, i < 9 → Cond.arrayOf (.field (Term.string "DikeWatch$Reader" (sIx.getD i 0)) "java/lang/String" "value" "[B") .byte ∈ flatC (Jvm.Cond.and given_1 narrow_1) := by decide +kernel
theorem sm4 : ∀ i : Nat, i < 9 → Cond.eq (.length (.field (Term.string "DikeWatch$Reader" (sIx.getD i 0)) "java/lang/String" "value" "[B")) (.int (Int32.ofNat (sLen.getD i 0))) ∈ flatC (Jvm.Cond.and given_1 narrow_1) := by decide +kernel
theorem sm5 : ∀ i : Nat, i < 9 → ∀ j : Nat, j < sLen.getD i 0 → Cond.eq (.elem (.field (Term.string "DikeWatch$Reader" (sIx.getD i 0)) "java/lang/String" "value" "[B") (.int (Int32.ofNat j))) (.int ((sByt.getD i []).getD j 0)) ∈ flatC (Jvm.Cond.and given_1 narrow_1) := by decide +kernel
theorem sm6 : ∀ i : Nat, i < 9 → ∀ j : Nat, j < 9 → i = j ∨ Cond.not (Cond.eq (Term.string "DikeWatch$Reader" (sIx.getD i 0)) (Term.string "DikeWatch$Reader" (sIx.getD j 0))) ∈ flatC (Jvm.Cond.and given_1 narrow_1) ∨ Cond.not (Cond.eq (Term.string "DikeWatch$Reader" (sIx.getD j 0)) (Term.string "DikeWatch$Reader" (sIx.getD i 0))) ∈ flatC (Jvm.Cond.and given_1 narrow_1) := by decide +kernel
set_option maxRecDepth 100000 in
set_option maxHeartbeats 4000000 in
theorem st_X {args : Array Value} {s : State} (hts : ∀ w ∈ lw_tbl, w.before args s = true) (hgv : (Jvm.Cond.and given_1 narrow_1).before args s = true) : ∃ ad : (Nat → Nat) × (Nat → Nat), kX ad (fun q : Nat => s.heap.size ≤ q) s s.heap := by
  have hs := flat_of_before _ hgv
  have hA : ∀ a : Nat, a < s.heap.size → ¬ (fun q : Nat => s.heap.size ≤ q) a := fun a h => Nat.not_le.mpr h
  obtain ⟨aK, aV, hS, hE⟩ := vk_Sof (args := args) (s := s) (N := 9) (tm := fun i => Term.string "DikeWatch$Reader" (sIx.getD i 0)) (len := sLen) (byt := sByt) (A := fun q : Nat => s.heap.size ≤ q) (by decide) (fun i hi => hs _ (sm1 i hi)) (fun i hi => hs _ (sm2 i hi)) (fun i hi => hs _ (sm3 i hi)) (fun i hi => hs _ (sm4 i hi)) (fun i hi j hj => hs _ (sm5 i hi j hj)) (fun i j hi hj hn => (sm6 i hi j hj).elim (fun h => absurd h hn) (fun h => h.elim (fun h => Or.inl (hs _ h)) (fun h => Or.inr (hs _ h)))) hA
  refine ⟨(aK, aV), ?_, fun i hi => ?_, hS, va_Zof (hts _ (List.mem_append_right _ (tm2 122 rfl))) (hts _ (List.mem_append_right _ (tm1 12 rfl))) (va_eqi (hs _ (by decide +kernel))) hA, va_Zqof (hts _ (List.mem_append_right _ (tm2 138 rfl))) (hts _ (List.mem_append_right _ (tm1 14 rfl))) (hs _ (by decide +kernel)) hA⟩
  · exact List.forall_mem_cons.mpr ⟨va_Nw.of rfl (hts _ (List.mem_append_right _ (tm1 29 rfl))), List.forall_mem_cons.mpr ⟨va_Nw.of rfl (hts _ (List.mem_append_right _ (tm1 45 rfl))), List.forall_mem_cons.mpr ⟨va_Nw.of rfl (hts _ (List.mem_append_right _ (tm1 227 rfl))), List.forall_mem_cons.mpr ⟨va_Nw.of rfl (hts _ (List.mem_append_right _ (tm2 6 rfl))), List.forall_mem_cons.mpr ⟨va_Nw.of rfl (hts _ (List.mem_append_right _ (tm2 169 rfl))), List.forall_mem_cons.mpr ⟨va_Nw.of rfl (hts _ (List.mem_append_right _ (tm3 16 rfl))), List.forall_mem_cons.mpr ⟨va_Nw.of rfl (hts _ (List.mem_append_right _ (tm3 52 rfl))), List.forall_mem_cons.mpr ⟨va_Nw.of rfl (hts _ (List.mem_append_right _ (tm3 119 rfl))), List.forall_mem_cons.mpr ⟨va_Nw.of rfl (hts _ (List.mem_append_right _ (tm3 167 rfl))), List.forall_mem_cons.mpr ⟨va_Nw.of rfl (hts _ (List.mem_append_right _ (tm3 180 rfl))), List.forall_mem_cons.mpr ⟨va_Nw.of rfl (hts _ (List.mem_append_right _ (tm3 232 rfl))), List.forall_mem_cons.mpr ⟨va_Nw.of rfl (hts _ (List.mem_append_right _ (tm4 51 rfl))), List.forall_mem_cons.mpr ⟨va_Nw.of rfl (hts _ (List.mem_append_right _ (tm4 64 rfl))), fun _ h => absurd h List.not_mem_nil⟩⟩⟩⟩⟩⟩⟩⟩⟩⟩⟩⟩⟩
  · match i, hi with
    | 0, _ => exact vk_R.of (hts _ (List.mem_append_right _ (tm2 108 rfl))) (hE 0 (by decide))
    | 1, _ => exact vk_R.of (hts _ (List.mem_append_right _ (tm2 177 rfl))) (hE 1 (by decide))
    | 2, _ => exact vk_R.of (hts _ (List.mem_append_right _ (tm2 182 rfl))) (hE 2 (by decide))
    | 3, _ => exact vk_R.of (hts _ (List.mem_append_right _ (tm2 196 rfl))) (hE 3 (by decide))
    | 4, _ => exact vk_R.of (hts _ (List.mem_append_right _ (tm2 197 rfl))) (hE 4 (by decide))
    | 5, _ => exact vk_R.of (hts _ (List.mem_append_right _ (tm2 202 rfl))) (hE 5 (by decide))
    | 6, _ => exact vk_R.of (hts _ (List.mem_append_right _ (tm2 203 rfl))) (hE 6 (by decide))
    | 7, _ => exact vk_R.of (hts _ (List.mem_append_right _ (tm2 204 rfl))) (hE 7 (by decide))
    | 8, _ => exact vk_R.of (hts _ (List.mem_append_right _ (tm2 205 rfl))) (hE 8 (by decide))
    | i + 9, hi => exact absurd hi (by omega)
theorem INV_0 : INV 0 0 (fun _ => 0) 12 0 0 (fun _ => 0) (fun _ => 0) (fun _ => 0) (fun _ => 0) (fun _ => 0) (fun _ => 0) (fun _ => 0) (fun _ => 0) (fun _ => 0) 0 0 0 (fun _ => 0) (fun _ => 0) (fun _ => 0) 0 0 0 (fun _ => 0) (fun _ => 0) (fun _ => 0) 0 0 0 (fun _ => 0) (fun _ => 0) (fun _ => 0) 12 0 4095 0 12 0 0 0 (fun _ => 0) (fun _ => 0) (fun _ => 0) (fun _ => 0) (fun _ => 0) (fun _ => 0) (fun _ => 0) (fun _ => 0) (fun _ => 0) := by
  have n0 : ∀ {P : Nat → Prop}, ∀ s : Nat, s < 0 → P s := fun s h => absurd h (Nat.not_lt_zero s)
  refine ⟨(12, 0, 0, (fun _ => 0), (fun _ => 0), (fun _ => 0), (fun _ => 0), (fun _ => 0), (fun _ => 0), (fun _ => 0), (fun _ => 0), (fun _ => 0)), (0, fun _ => false, fun _ => false, (fun _ => 0), (fun _ => 0), (fun _ => 0)), (0, fun _ => false, fun _ => false, (fun _ => 0), (fun _ => 0), (fun _ => 0)), (0, fun _ => false, fun _ => false, (fun _ => 0), (fun _ => 0), (fun _ => 0)), 0, 0, 0, ?_, ?_, ?_, ?_, ?_, ?_, ?_, ?_, ?_, ?_⟩
  · exact ⟨by decide, by decide, by decide, by decide, fun h _ => Nat.zero_le _, n0, n0⟩
  · exact ⟨Nat.zero_le _, n0, n0⟩
  · exact ⟨rfl, rfl, rfl, fun _ _ => rfl, n0, n0⟩
  · exact ⟨rfl, rfl, rfl, n0, n0⟩
  · exact ⟨rfl, rfl, rfl, fun _ _ => rfl, n0, n0⟩
  · exact ⟨rfl, rfl, rfl, n0, n0⟩
  · exact ⟨rfl, fun _ _ _ => rfl⟩
  · exact ⟨rfl, by decide, by decide, by decide, fun h => absurd h (by decide), fun h => absurd h (by decide)⟩
  · exact ⟨rfl, rfl, rfl, by decide, fun j h => absurd h (by omega), by decide +kernel⟩
  · exact ⟨rfl, rfl, by decide, n0⟩
