/-! ===== String constants: length() and charAt(int) of the nine, by the JDK's own code ===== -/
def sCh (i j : Nat) : Int32 := ((((sByt.getD i []).getD j 0) &&& (255 : Int32)).toUInt32 % 65536).toInt32
section KS
variable {p : Program} {l : Launch} {e : Env} {R : Room} {s : State} {m : MethodId} {args : Array Value} {below : List Frame} {meth : Method} {c : Code} {H : Heap} {locs : List Loc} {cells slots : Nat} {Q : State → Prop}
variable {cc : ByteArray} {pc : Nat} {ls : Array Slot} {rest st0 st2 : List Value} {D : va_G} {A : Nat → Prop} {tys : List (ClassId × FieldType)} {ad : (Nat → Nat) × (Nat → Nat)} {ws : va_W} {maxL : Nat} {ret : Option FieldType} {own : String} {rv : Option Value}
variable {y : MethodName} {wy : List Cond} {rm : Room} {bytes : ByteArray} {maxLy n index i : Nat} {rety : Option FieldType} {As : List Value}
theorem kLdcS (C : kC p s m args meth c cc maxL ret own D tys ad A) (i : Nat) (hi : i < 9) (ho : own = RX4) {k : Nat} (hk : sIx.getD i 0 = k) (hdg : decode cc pc = .ok (.ldc k, 2))
    (kk : W p l e R s m args below meth c H locs cells slots Q (F0 m (pc + 2) ls (.ref (ad.1 i) :: rest))) : W p l e R s m args below meth c H locs cells slots Q (F0 m pc ls rest) := by
  subst ho; subst hk
  have hZ := C.2.2.2.2.2.2.2.2.1.2.1 i hi
  intro T hT X
  obtain ⟨t, a1, b1⟩ := kk T hT X
  exact ⟨t, X.ldcString C.1 C.2.2.2.2.2.1 (text := sTx.getD i "") (a := ad.1 i) hZ.1 hZ.2 (g := F0 m pc ls rest) rfl (by rw [C.2.1]; exact hdg) t a1, b1⟩
theorem kCallVS (C : kC p s m args meth c cc maxL ret own D tys ad A) (hw : kW D A s.heap ws H locs) (hi : i < 9) (hM : kM l y wy rm D tys ad (.ref (ad.1 i) :: As) [] rv []) (cw : CallW R s args own "java/lang/String" index y bytes maxLy rety wy rm 0 0 n)
    (hl : ls.size = maxL) (hlen : As.length = n) (hst0 : As.reverse ++ .ref (ad.1 i) :: rest = st0) (hst : rv.toList ++ rest = st2) (hroom : (rest.map fun v => v.category).sum ≤ 8) (hf : cells ≤ R.cells ∧ slots ≤ R.slots) (hdg : decode cc pc = .ok (.invokevirtual index, 3))
    (kk : ∀ (H1 : Heap) (locs1 : List Loc), kW D A s.heap ws H1 locs1 → W p l e R s m args below meth c H1 locs1 cells slots Q (F0 m (pc + 3) ls st2)) : W p l e R s m args below meth c H locs cells slots Q (F0 m pc ls st0) := by
  subst hst0
  have hp := kPre (av := .ref (ad.1 i) :: As) (wc := []) C hw [] rfl rfl
  exact kGo (va_runV (g := F0 m pc ls (As.reverse ++ .ref (ad.1 i) :: rest)) (As := As) (rest := rest) ⟨C.1, C.2.1, C.2.2.1, C.2.2.2.2.2.1, C.2.2.2.2.2.2.1⟩ (hM H.size) cw ⟨hp.1, vk_recv C.2.2.2.2.2.2.2.2.1.2.2.1 hi hw.2.2, hp.2⟩ rfl hlen hl rfl (lv_room hroom) hdg hf) hw (va_free hw.2.1 hw.2.2 C.2.2.2.2.2.2.2.2.2 [] rfl) hst (fun H1 g1 g2 => ⟨kBackR (is := []) (wc := []) hw.1 hw.2.1 rfl g1 g2, hw.2.1⟩) kk
end KS
abbrev rm_J0_coder_7d493 : Room := { frames := 0, cells := 0, slots := 0, locals := 0 }
theorem kd_J0_coder_7d493 : yJ0_coder_7d493.cls = "java/lang/String" ∧ yJ0_coder_7d493.cls ≠ "java/lang/invoke/MethodHandle" ∧ yJ0_coder_7d493.cls ≠ "java/lang/invoke/VarHandle" ∧ (parseMethodDescriptor yJ0_coder_7d493.desc).map (fun d => d.parameters.length) = some 0 := by decide +kernel
set_option maxRecDepth 100000 in
set_option maxHeartbeats 4000000 in
theorem A_J0_coder_7d493 (l : Launch) (D : va_G) (cB cI cJ cZ : ClassId) (ad : (Nat → Nat) × (Nat → Nat)) (i : Nat) (hi : i < 9) : kM l yJ0_coder_7d493 (Cond.code yJ0_coder_7d493 cJ0_coder_7d493 1 (some .byte) :: W0) rm_J0_coder_7d493 D (kT cB cI cJ cZ) ad [.ref (ad.1 i)] [] (some (.int 0)) [] := by
  refine kStart (lv := [(0, .ref (ad.1 i))]) (own := "java/lang/String") (by decide +kernel) rfl (Nat.le_of_ble_eq_true rfl) rfl ?_
  intro p e s m args below meth c A Q ls hQ C hx hb hw hl
  have hX := C.2.2.2.2.2.2.2.2.1
  refine va_gets hx hb hX.2.2.2.1 hw.2.2 C.2.2.2.2.2.1 (C.2.2.2.2.2.2.1 _ q2_121) (fun _ h => h) (dq dt_J0_coder_7d493 0 rfl) ?_
  refine lv_if_eq (tgt := 13) hx hb (dq dt_J0_coder_7d493 1 rfl) (by decide) (fun c1 => absurd c1 (by decide)) (fun c1 => ?_)
  refine lv_aload_n hx hb (dq dt_J0_coder_7d493 2 rfl) rfl (lv_at hl 0 rfl) ?_
  refine vk_getf hx hb (hX.2.2.1.1 i hi).2.1 hw.2.2 C.2.2.2.2.2.1 (C.2.2.2.2.2.2.1 _ q5_197) (fun _ h => h) (dq dt_J0_coder_7d493 3 rfl) ?_
  refine lv_goto (tgt := 14) hx hb (dq dt_J0_coder_7d493 4 rfl) (by decide) ?_
  exact kRetZ hQ C rfl hw (dq dt_J0_coder_7d493 6 rfl)
abbrev rm_J0_isLatin1_aae02 : Room := { frames := 0, cells := 0, slots := 0, locals := 0 }
theorem kd_J0_isLatin1_aae02 : yJ0_isLatin1_aae02.cls = "java/lang/String" ∧ yJ0_isLatin1_aae02.cls ≠ "java/lang/invoke/MethodHandle" ∧ yJ0_isLatin1_aae02.cls ≠ "java/lang/invoke/VarHandle" ∧ (parseMethodDescriptor yJ0_isLatin1_aae02.desc).map (fun d => d.parameters.length) = some 0 := by decide +kernel
set_option maxRecDepth 100000 in
set_option maxHeartbeats 4000000 in
theorem A_J0_isLatin1_aae02 (l : Launch) (D : va_G) (cB cI cJ cZ : ClassId) (ad : (Nat → Nat) × (Nat → Nat)) (i : Nat) (hi : i < 9) : kM l yJ0_isLatin1_aae02 (Cond.code yJ0_isLatin1_aae02 cJ0_isLatin1_aae02 1 (some .boolean) :: W0) rm_J0_isLatin1_aae02 D (kT cB cI cJ cZ) ad [.ref (ad.1 i)] [] (some (.int 1)) [] := by
  refine kStart (lv := [(0, .ref (ad.1 i))]) (own := "java/lang/String") (by decide +kernel) rfl (Nat.le_of_ble_eq_true rfl) rfl ?_
  intro p e s m args below meth c A Q ls hQ C hx hb hw hl
  have hX := C.2.2.2.2.2.2.2.2.1
  refine va_gets hx hb hX.2.2.2.1 hw.2.2 C.2.2.2.2.2.1 (C.2.2.2.2.2.2.1 _ q2_121) (fun _ h => h) (dq dt_J0_isLatin1_aae02 0 rfl) ?_
  refine lv_if_eq (tgt := 17) hx hb (dq dt_J0_isLatin1_aae02 1 rfl) (by decide) (fun c1 => absurd c1 (by decide)) (fun c1 => ?_)
  refine lv_aload_n hx hb (dq dt_J0_isLatin1_aae02 2 rfl) rfl (lv_at hl 0 rfl) ?_
  refine vk_getf hx hb (hX.2.2.1.1 i hi).2.1 hw.2.2 C.2.2.2.2.2.1 (C.2.2.2.2.2.2.1 _ q5_197) (fun _ h => h) (dq dt_J0_isLatin1_aae02 3 rfl) ?_
  refine lv_if_ne (tgt := 17) hx hb (dq dt_J0_isLatin1_aae02 4 rfl) (by decide) (fun c1 => absurd rfl c1) (fun c1 => ?_)
  refine lv_iconst (v := (1 : Int32)) hx hb (dq dt_J0_isLatin1_aae02 5 rfl) (by decide) ?_
  refine lv_goto (tgt := 18) hx hb (dq dt_J0_isLatin1_aae02 6 rfl) (by decide) ?_
  exact kRetZ hQ C rfl hw (dq dt_J0_isLatin1_aae02 8 rfl)
theorem sLen_ok : ∀ i, i < 9 → (Int32.ofNat (sLen.getD i 0)) >>> ((0 : Int32) &&& 31) = nI (sLen.getD i 0) := by decide +kernel
abbrev rm_J0_length_8abf5 : Room := { frames := 1, cells := 0, slots := 0, locals := 20 }
theorem kd_J0_length_8abf5 : yJ0_length_8abf5.cls = "java/lang/String" ∧ yJ0_length_8abf5.cls ≠ "java/lang/invoke/MethodHandle" ∧ yJ0_length_8abf5.cls ≠ "java/lang/invoke/VarHandle" ∧ (parseMethodDescriptor yJ0_length_8abf5.desc).map (fun d => d.parameters.length) = some 0 := by decide +kernel
set_option maxRecDepth 100000 in
set_option maxHeartbeats 4000000 in
theorem A_J0_length_8abf5 (l : Launch) (D : va_G) (cB cI cJ cZ : ClassId) (ad : (Nat → Nat) × (Nat → Nat)) (i : Nat) (hi : i < 9) : kM l yJ0_length_8abf5 (Cond.code yJ0_length_8abf5 cJ0_length_8abf5 1 (some .int) :: W0) rm_J0_length_8abf5 D (kT cB cI cJ cZ) ad [.ref (ad.1 i)] [] (some (.int (nI (sLen.getD i 0)))) [] := by
  refine kStart (lv := [(0, .ref (ad.1 i))]) (own := "java/lang/String") (by decide +kernel) rfl (Nat.le_of_ble_eq_true rfl) rfl ?_
  intro p e s m args below meth c A Q ls hQ C hx hb hw hl
  have hX := C.2.2.2.2.2.2.2.2.1
  refine lv_aload_n hx hb (dq dt_J0_length_8abf5 0 rfl) rfl (lv_at hl 0 rfl) ?_
  refine vk_getf hx hb (hX.2.2.1.1 i hi).2.2.1 hw.2.2 C.2.2.2.2.2.1 (C.2.2.2.2.2.2.1 _ q5_196) (fun _ h => h) (dq dt_J0_length_8abf5 1 rfl) ?_
  refine va_tlen hx hb (hX.2.2.1.1 i hi).2.2.2 hw.2.2 rfl (dq dt_J0_length_8abf5 2 rfl) ?_
  refine lv_aload_n hx hb (dq dt_J0_length_8abf5 3 rfl) rfl (lv_at hl 0 rfl) ?_
  refine kCallVS (i := i) C hw hi (A_J0_coder_7d493 l D cB cI cJ cZ ad i hi) (cwV 0 C.2.2.2.2.2.2.1 (w0_V0 q2_120 q2_117 q2_118 q2_119 q1_12) rfl rfl rfl kd_J0_coder_7d493 ⟨Nat.le_of_ble_eq_true rfl, Nat.le_of_ble_eq_true rfl⟩) hl.1 rfl rfl rfl (Nat.le_of_ble_eq_true rfl) ⟨Nat.le_of_ble_eq_true rfl, Nat.le_of_ble_eq_true rfl⟩ (dq dt_J0_length_8abf5 4 rfl) (fun H locs hw => ?_)
  refine lv_ishr hx hb (dq dt_J0_length_8abf5 5 rfl) ?_
  refine kNmI (sLen_ok i hi).symm ?_
  exact kRetI hQ C hw (dq dt_J0_length_8abf5 6 rfl)
abbrev rm_J3_checkIndex_8e157 : Room := { frames := 0, cells := 0, slots := 0, locals := 0 }
theorem ke_J3_checkIndex_8e157 : yJ3_checkIndex_8e157.cls ≠ "java/lang/invoke/MethodHandle" ∧ yJ3_checkIndex_8e157.cls ≠ "java/lang/invoke/VarHandle" ∧ (parseMethodDescriptor yJ3_checkIndex_8e157.desc).map (fun d => d.parameters.length) = some 3 := by decide +kernel
set_option maxRecDepth 100000 in
set_option maxHeartbeats 4000000 in
theorem A_J3_checkIndex_8e157_0 (l : Launch) (D : va_G) (cB cI cJ cZ : ClassId) (ad : (Nat → Nat) × (Nat → Nat)) (k n : Int32) (h1 : ¬ k < 0) (h2 : k < n) : kM l yJ3_checkIndex_8e157 (Cond.code yJ3_checkIndex_8e157 cJ3_checkIndex_8e157 3 (some .int) :: W0) rm_J3_checkIndex_8e157 D (kT cB cI cJ cZ) ad [.int k, .int n, .null] [] (some (.int k)) [] := by
  refine kStart (lv := [(0, .int k), (1, .int n), (2, .null)]) (own := "jdk/internal/util/Preconditions") (by decide +kernel) rfl (Nat.le_of_ble_eq_true rfl) rfl ?_
  intro p e s m args below meth c A Q ls hQ C hx hb hw hl
  refine lv_iload_n hx hb (dq dt_J3_checkIndex_8e157 0 rfl) rfl (lv_at hl 0 rfl) ?_
  refine lv_if_lt (tgt := 9) hx hb (dq dt_J3_checkIndex_8e157 1 rfl) (by decide) (fun c1 => absurd c1 h1) (fun c1 => ?_)
  refine lv_iload_n hx hb (dq dt_J3_checkIndex_8e157 2 rfl) rfl (lv_at hl 0 rfl) ?_
  refine lv_iload_n hx hb (dq dt_J3_checkIndex_8e157 3 rfl) rfl (lv_at hl 1 rfl) ?_
  refine lv_icmp_lt (tgt := 16) hx hb (dq dt_J3_checkIndex_8e157 4 rfl) (by decide) (fun c1 => ?_) (fun c1 => absurd h2 c1)
  refine lv_iload_n hx hb (dq dt_J3_checkIndex_8e157 10 rfl) rfl (lv_at hl 0 rfl) ?_
  exact kRetI hQ C hw (dq dt_J3_checkIndex_8e157 11 rfl)
set_option maxRecDepth 100000 in
set_option maxHeartbeats 4000000 in
theorem A_J3_checkIndex_8e157_1 (l : Launch) (D : va_G) (cB cI cJ cZ : ClassId) (ad : (Nat → Nat) × (Nat → Nat)) (k n : Int32) (tt : Nat) (h1 : ¬ k < 0) (h2 : k < n) : kM l yJ3_checkIndex_8e157 (Cond.code yJ3_checkIndex_8e157 cJ3_checkIndex_8e157 3 (some .int) :: W0) rm_J3_checkIndex_8e157 D (kT cB cI cJ cZ) ad [.int k, .int n, .ref tt] [] (some (.int k)) [] := by
  refine kStart (lv := [(0, .int k), (1, .int n), (2, .ref tt)]) (own := "jdk/internal/util/Preconditions") (by decide +kernel) rfl (Nat.le_of_ble_eq_true rfl) rfl ?_
  intro p e s m args below meth c A Q ls hQ C hx hb hw hl
  refine lv_iload_n hx hb (dq dt_J3_checkIndex_8e157 0 rfl) rfl (lv_at hl 0 rfl) ?_
  refine lv_if_lt (tgt := 9) hx hb (dq dt_J3_checkIndex_8e157 1 rfl) (by decide) (fun c1 => absurd c1 h1) (fun c1 => ?_)
  refine lv_iload_n hx hb (dq dt_J3_checkIndex_8e157 2 rfl) rfl (lv_at hl 0 rfl) ?_
  refine lv_iload_n hx hb (dq dt_J3_checkIndex_8e157 3 rfl) rfl (lv_at hl 1 rfl) ?_
  refine lv_icmp_lt (tgt := 16) hx hb (dq dt_J3_checkIndex_8e157 4 rfl) (by decide) (fun c1 => ?_) (fun c1 => absurd h2 c1)
  refine lv_iload_n hx hb (dq dt_J3_checkIndex_8e157 10 rfl) rfl (lv_at hl 0 rfl) ?_
  exact kRetI hQ C hw (dq dt_J3_checkIndex_8e157 11 rfl)
abbrev rm_J0_checkIndex_df160 : Room := { frames := 1, cells := 0, slots := 0, locals := 22 }
theorem ke_J0_checkIndex_df160 : yJ0_checkIndex_df160.cls ≠ "java/lang/invoke/MethodHandle" ∧ yJ0_checkIndex_df160.cls ≠ "java/lang/invoke/VarHandle" ∧ (parseMethodDescriptor yJ0_checkIndex_df160.desc).map (fun d => d.parameters.length) = some 2 := by decide +kernel
set_option maxRecDepth 100000 in
set_option maxHeartbeats 4000000 in
theorem A_J0_checkIndex_df160 (l : Launch) (D : va_G) (cB cI cJ cZ : ClassId) (ad : (Nat → Nat) × (Nat → Nat)) (k n : Int32) (h1 : ¬ k < 0) (h2 : k < n) : kM l yJ0_checkIndex_df160 (Cond.code yJ0_checkIndex_df160 cJ0_checkIndex_df160 2 none :: W0) rm_J0_checkIndex_df160 D (kT cB cI cJ cZ) ad [.int k, .int n] [] none [] := by
  refine kStart (lv := [(0, .int k), (1, .int n)]) (own := "java/lang/String") (by decide +kernel) rfl (Nat.le_of_ble_eq_true rfl) rfl ?_
  intro p e s m args below meth c A Q ls hQ C hx hb hw hl
  refine lv_iload_n hx hb (dq dt_J0_checkIndex_df160 0 rfl) rfl (lv_at hl 0 rfl) ?_
  refine lv_iload_n hx hb (dq dt_J0_checkIndex_df160 1 rfl) rfl (lv_at hl 1 rfl) ?_
  rcases C.2.2.2.2.2.2.2.2.1.2.2.2.2 with hZ | ⟨tt, hZ⟩
  · refine va_gets hx hb hZ hw.2.2 C.2.2.2.2.2.1 (C.2.2.2.2.2.2.1 _ q2_137) (fun _ h => h) (dq dt_J0_checkIndex_df160 2 rfl) ?_
    refine kCallSP C hw (A_J3_checkIndex_8e157_0 l D cB cI cJ cZ ad k n h1 h2) (va_cwS 3 C.2.2.2.2.2.2.1 (w0_S0 q2_141 q2_139 q2_140 q1_14) rfl rfl rfl ke_J3_checkIndex_8e157 ⟨Nat.le_of_ble_eq_true rfl, Nat.le_of_ble_eq_true rfl⟩) hl.1 rfl rfl rfl (Nat.le_of_ble_eq_true rfl) ⟨Nat.le_of_ble_eq_true rfl, Nat.le_of_ble_eq_true rfl⟩ (dq dt_J0_checkIndex_df160 3 rfl) (fun H locs hw => ?_)
    refine lv_pop hx hb (dq dt_J0_checkIndex_df160 4 rfl) rfl ?_
    exact kRetV hQ C hw (dq dt_J0_checkIndex_df160 5 rfl)
  · refine va_gets hx hb hZ hw.2.2 C.2.2.2.2.2.1 (C.2.2.2.2.2.2.1 _ q2_137) (fun _ h => h) (dq dt_J0_checkIndex_df160 2 rfl) ?_
    refine kCallSP C hw (A_J3_checkIndex_8e157_1 l D cB cI cJ cZ ad k n tt h1 h2) (va_cwS 3 C.2.2.2.2.2.2.1 (w0_S0 q2_141 q2_139 q2_140 q1_14) rfl rfl rfl ke_J3_checkIndex_8e157 ⟨Nat.le_of_ble_eq_true rfl, Nat.le_of_ble_eq_true rfl⟩) hl.1 rfl rfl rfl (Nat.le_of_ble_eq_true rfl) ⟨Nat.le_of_ble_eq_true rfl, Nat.le_of_ble_eq_true rfl⟩ (dq dt_J0_checkIndex_df160 3 rfl) (fun H locs hw => ?_)
    refine lv_pop hx hb (dq dt_J0_checkIndex_df160 4 rfl) rfl ?_
    exact kRetV hQ C hw (dq dt_J0_checkIndex_df160 5 rfl)
theorem sIn {i : Nat} {k : Int32} (hi : i < 9) (h : vp_in k (sLen.getD i 0)) : ¬ k < 0 ∧ k < Int32.ofNat (sLen.getD i 0) := by
  have hb : sLen.getD i 0 < 2 ^ 31 := by
    have h2 : ∀ i, i < 9 → sLen.getD i 0 < 2 ^ 31 := by decide +kernel
    exact h2 i hi
  obtain ⟨j, hj, rfl⟩ := vp_in_of h hb
  exact ⟨nI_pos (by omega), nI_lt hj hb⟩
abbrev rm_J1_charAt_3b067 : Room := { frames := 2, cells := 0, slots := 0, locals := 43 }
theorem ke_J1_charAt_3b067 : yJ1_charAt_3b067.cls ≠ "java/lang/invoke/MethodHandle" ∧ yJ1_charAt_3b067.cls ≠ "java/lang/invoke/VarHandle" ∧ (parseMethodDescriptor yJ1_charAt_3b067.desc).map (fun d => d.parameters.length) = some 2 := by decide +kernel
set_option maxRecDepth 100000 in
set_option maxHeartbeats 4000000 in
theorem A_J1_charAt_3b067 (l : Launch) (D : va_G) (cB cI cJ cZ : ClassId) (ad : (Nat → Nat) × (Nat → Nat)) (i : Nat) (hi : i < 9) (k : Int32) (hk : vp_in k (sLen.getD i 0)) : kM l yJ1_charAt_3b067 (Cond.code yJ1_charAt_3b067 cJ1_charAt_3b067 2 (some .char) :: W0) rm_J1_charAt_3b067 D (kT cB cI cJ cZ) ad [.ref (ad.2 i), .int k] [] (some (.int (sCh i k.toNatClampNeg))) [] := by
  refine kStart (lv := [(0, .ref (ad.2 i)), (1, .int k)]) (own := "java/lang/StringLatin1") (by decide +kernel) rfl (Nat.le_of_ble_eq_true rfl) rfl ?_
  intro p e s m args below meth c A Q ls hQ C hx hb hw hl
  have hX := C.2.2.2.2.2.2.2.2.1
  refine lv_iload_n hx hb (dq dt_J1_charAt_3b067 0 rfl) rfl (lv_at hl 1 rfl) ?_
  refine lv_aload_n hx hb (dq dt_J1_charAt_3b067 1 rfl) rfl (lv_at hl 0 rfl) ?_
  refine va_tlen hx hb (hX.2.2.1.1 i hi).2.2.2 hw.2.2 rfl (dq dt_J1_charAt_3b067 2 rfl) ?_
  refine kCallSP C hw (A_J0_checkIndex_df160 l D cB cI cJ cZ ad k _ (sIn hi hk).1 (sIn hi hk).2) (va_cwS 2 C.2.2.2.2.2.2.1 (w0_S0 q2_136 q2_134 q2_135 q1_12) rfl rfl rfl ke_J0_checkIndex_df160 ⟨Nat.le_of_ble_eq_true rfl, Nat.le_of_ble_eq_true rfl⟩) hl.1 rfl rfl rfl (Nat.le_of_ble_eq_true rfl) ⟨Nat.le_of_ble_eq_true rfl, Nat.le_of_ble_eq_true rfl⟩ (dq dt_J1_charAt_3b067 3 rfl) (fun H locs hw => ?_)
  refine lv_aload_n hx hb (dq dt_J1_charAt_3b067 4 rfl) rfl (lv_at hl 0 rfl) ?_
  refine lv_iload_n hx hb (dq dt_J1_charAt_3b067 5 rfl) rfl (lv_at hl 1 rfl) ?_
  refine va_tb hx hb (hX.2.2.1.1 i hi).2.2.2 hw.2.2 hk rfl (dq dt_J1_charAt_3b067 6 rfl) ?_
  refine lv_sipush (v := (255 : Int32)) hx hb (dq dt_J1_charAt_3b067 7 rfl) (by decide) ?_
  refine lv_iand hx hb (dq dt_J1_charAt_3b067 8 rfl) ?_
  refine lv_i2c (v := sCh i k.toNatClampNeg) hx hb (dq dt_J1_charAt_3b067 9 rfl) rfl ?_
  exact kRetZ hQ C (pk_nc _) hw (dq dt_J1_charAt_3b067 10 rfl)
abbrev rm_J0_charAt_5068e : Room := { frames := 3, cells := 0, slots := 0, locals := 64 }
theorem kd_J0_charAt_5068e : yJ0_charAt_5068e.cls = "java/lang/String" ∧ yJ0_charAt_5068e.cls ≠ "java/lang/invoke/MethodHandle" ∧ yJ0_charAt_5068e.cls ≠ "java/lang/invoke/VarHandle" ∧ (parseMethodDescriptor yJ0_charAt_5068e.desc).map (fun d => d.parameters.length) = some 1 := by decide +kernel
set_option maxRecDepth 100000 in
set_option maxHeartbeats 4000000 in
theorem A_J0_charAt_5068e (l : Launch) (D : va_G) (cB cI cJ cZ : ClassId) (ad : (Nat → Nat) × (Nat → Nat)) (i : Nat) (hi : i < 9) (k : Int32) (hk : vp_in k (sLen.getD i 0)) : kM l yJ0_charAt_5068e (Cond.code yJ0_charAt_5068e cJ0_charAt_5068e 2 (some .char) :: W0) rm_J0_charAt_5068e D (kT cB cI cJ cZ) ad [.ref (ad.1 i), .int k] [] (some (.int (sCh i k.toNatClampNeg))) [] := by
  refine kStart (lv := [(0, .ref (ad.1 i)), (1, .int k)]) (own := "java/lang/String") (by decide +kernel) rfl (Nat.le_of_ble_eq_true rfl) rfl ?_
  intro p e s m args below meth c A Q ls hQ C hx hb hw hl
  have hX := C.2.2.2.2.2.2.2.2.1
  refine lv_aload_n hx hb (dq dt_J0_charAt_5068e 0 rfl) rfl (lv_at hl 0 rfl) ?_
  refine kCallVS (i := i) C hw hi (A_J0_isLatin1_aae02 l D cB cI cJ cZ ad i hi) (cwV 0 C.2.2.2.2.2.2.1 (w0_V0 q2_130 q2_127 q2_128 q2_129 q1_12) rfl rfl rfl kd_J0_isLatin1_aae02 ⟨Nat.le_of_ble_eq_true rfl, Nat.le_of_ble_eq_true rfl⟩) hl.1 rfl rfl rfl (Nat.le_of_ble_eq_true rfl) ⟨Nat.le_of_ble_eq_true rfl, Nat.le_of_ble_eq_true rfl⟩ (dq dt_J0_charAt_5068e 1 rfl) (fun H locs hw => ?_)
  refine lv_if_eq (tgt := 16) hx hb (dq dt_J0_charAt_5068e 2 rfl) (by decide) (fun c1 => absurd c1 (by decide)) (fun c1 => ?_)
  refine lv_aload_n hx hb (dq dt_J0_charAt_5068e 3 rfl) rfl (lv_at hl 0 rfl) ?_
  refine vk_getf hx hb (hX.2.2.1.1 i hi).2.2.1 hw.2.2 C.2.2.2.2.2.1 (C.2.2.2.2.2.2.1 _ q5_196) (fun _ h => h) (dq dt_J0_charAt_5068e 4 rfl) ?_
  refine lv_iload_n hx hb (dq dt_J0_charAt_5068e 5 rfl) rfl (lv_at hl 1 rfl) ?_
  refine kCallSP C hw (A_J1_charAt_3b067 l D cB cI cJ cZ ad i hi k hk) (va_cwS 2 C.2.2.2.2.2.2.1 (w0_S0 q2_133 q2_131 q2_132 q1_13) rfl rfl rfl ke_J1_charAt_3b067 ⟨Nat.le_of_ble_eq_true rfl, Nat.le_of_ble_eq_true rfl⟩) hl.1 rfl rfl rfl (Nat.le_of_ble_eq_true rfl) ⟨Nat.le_of_ble_eq_true rfl, Nat.le_of_ble_eq_true rfl⟩ (dq dt_J0_charAt_5068e 6 rfl) (fun H locs hw => ?_)
  exact kRetZ hQ C (pk_nc _) hw (dq dt_J0_charAt_5068e 7 rfl)
theorem kStrLen {p : Program} {l : Launch} {e : Env} {R : Room} {s : State} {m : MethodId} {args : Array Value} {below : List Frame} {meth : Method} {c : Code} {H : Heap} {locs : List Loc} {cells slots : Nat} {Q : State → Prop} {cc : ByteArray} {pc : Nat} {ls : Array Slot} {rest : List Value} {D : va_G} {A : Nat → Prop} {cB cI cJ cZ : ClassId} {ad : (Nat → Nat) × (Nat → Nat)} {ws : va_W} {maxL : Nat} {ret : Option FieldType} {own : String} {index i : Nat} {v : Int32}
    (C : kC p s m args meth c cc maxL ret own D (kT cB cI cJ cZ) ad A) (hw : kW D A s.heap ws H locs) (hi : i < 9) (hv : v = nI (sLen.getD i 0)) (hlk : Cond.methodLink own index yJ0_length_8abf5 ∈ W0) (hl : ls.size = maxL) (hroom : (rest.map fun v => v.category).sum ≤ 8) (hfr : rm_J0_length_8abf5.frames + 1 ≤ R.frames) (hlo : 8 + (1 + 11) + rm_J0_length_8abf5.locals ≤ R.locals) (hf : cells ≤ R.cells ∧ slots ≤ R.slots) (hdg : decode cc pc = .ok (.invokevirtual index, 3))
    (kk : ∀ (H1 : Heap) (locs1 : List Loc), kW D A s.heap ws H1 locs1 → W p l e R s m args below meth c H1 locs1 cells slots Q (F0 m (pc + 3) ls (.int v :: rest))) : W p l e R s m args below meth c H locs cells slots Q (F0 m pc ls (.ref (ad.1 i) :: rest)) := by
  subst hv
  exact kCallVS (i := i) C hw hi (A_J0_length_8abf5 l D cB cI cJ cZ ad i hi) (cwV 0 C.2.2.2.2.2.2.1 (w0_V0 q2_116 hlk q2_114 q2_115 q1_12) rfl rfl rfl kd_J0_length_8abf5 ⟨hfr, hlo⟩) hl rfl rfl rfl hroom hf hdg kk
theorem kStrAt {p : Program} {l : Launch} {e : Env} {R : Room} {s : State} {m : MethodId} {args : Array Value} {below : List Frame} {meth : Method} {c : Code} {H : Heap} {locs : List Loc} {cells slots : Nat} {Q : State → Prop} {cc : ByteArray} {pc : Nat} {ls : Array Slot} {rest : List Value} {D : va_G} {A : Nat → Prop} {cB cI cJ cZ : ClassId} {ad : (Nat → Nat) × (Nat → Nat)} {ws : va_W} {maxL : Nat} {ret : Option FieldType} {own : String} {index i : Nat} {v : Int32} {k : Int32}
    (C : kC p s m args meth c cc maxL ret own D (kT cB cI cJ cZ) ad A) (hw : kW D A s.heap ws H locs) (hi : i < 9) (hk : vp_in k (sLen.getD i 0)) (hv : v = sCh i k.toNatClampNeg) (hlk : Cond.methodLink own index yJ0_charAt_5068e ∈ W0) (hl : ls.size = maxL) (hroom : (rest.map fun v => v.category).sum ≤ 8) (hfr : rm_J0_charAt_5068e.frames + 1 ≤ R.frames) (hlo : 8 + (2 + 11) + rm_J0_charAt_5068e.locals ≤ R.locals) (hf : cells ≤ R.cells ∧ slots ≤ R.slots) (hdg : decode cc pc = .ok (.invokevirtual index, 3))
    (kk : ∀ (H1 : Heap) (locs1 : List Loc), kW D A s.heap ws H1 locs1 → W p l e R s m args below meth c H1 locs1 cells slots Q (F0 m (pc + 3) ls (.int v :: rest))) : W p l e R s m args below meth c H locs cells slots Q (F0 m pc ls (.int k :: .ref (ad.1 i) :: rest)) := by
  subst hv
  exact kCallVS (i := i) C hw hi (A_J0_charAt_5068e l D cB cI cJ cZ ad i hi k hk) (cwV 1 C.2.2.2.2.2.2.1 (w0_V0 q2_126 hlk q2_124 q2_125 q1_12) rfl rfl rfl kd_J0_charAt_5068e ⟨hfr, hlo⟩) hl rfl rfl rfl hroom hf hdg kk
