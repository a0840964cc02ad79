/-! ===== calls: the caller's world behind them ===== -/
theorem kFold : ∀ (is : List Nat) (l : va_W) (ws : va_W) (k : Nat) (q : Nat × va_E), is.length = l.length → ((is.zip l).foldl (fun w x => w.set x.1 x.2) ws)[k]? = some q → (∃ j : Nat, is[j]? = some k ∧ l[j]? = some q) ∨ (k ∉ is ∧ ws[k]? = some q)
  | [], l, ws, k, q, _, h => Or.inr ⟨by simp, by simpa using h⟩
  | i :: is, [], ws, k, q, hl, _ => by simp at hl
  | i :: is, x :: l, ws, k, q, hl, h => by
    have hl' : is.length = l.length := by simpa using hl
    rcases kFold is l (ws.set i x) k q hl' (by simpa using h) with ⟨j, h1, h2⟩ | ⟨h1, h2⟩
    · exact Or.inl ⟨j + 1, by simpa using h1, by simpa using h2⟩
    · by_cases hk : k = i
      · subst hk
        have hb : k < ws.length := by
          have := (List.getElem?_eq_some_iff.mp h2).1
          simpa using this
        rw [List.getElem?_set_self hb] at h2
        exact Or.inl ⟨0, by simp, by simpa using h2⟩
      · rw [List.getElem?_set_ne (Ne.symm hk)] at h2
        exact Or.inr ⟨by simp [hk, h1], h2⟩
/-- the places of a part -/
theorem kPick {ws wc : va_W} {is : List Nat} (hC : is.map (fun i => ws[i]?) = wc.map some) (j : Nat) (q : Nat × va_E) (h : wc[j]? = some q) : ∃ i, is[j]? = some i ∧ ws[i]? = some q := by
  have h1 : (is.map (fun i => ws[i]?))[j]? = some (some q) := by rw [hC, List.getElem?_map, h]; rfl
  rw [List.getElem?_map] at h1
  cases hi : is[j]? with
  | none => rw [hi] at h1; cases h1
  | some i => rw [hi] at h1; exact ⟨i, rfl, Option.some.inj h1⟩
theorem kBack {D : va_G} {A : Nat → Prop} {ws wc wc' ws2 : va_W} {H H1 : Heap} {is : List Nat} (hP : va_P D vwCl ws H) (hD : va_D A ws) (hC : is.map (fun i => ws[i]?) = wc.map some) (hsame : wc'.map Prod.fst = wc.map Prod.fst) (h2 : (is.zip wc').foldl (fun w x => w.set x.1 x.2) ws = ws2)
    (hk : ∀ q : Nat, q < H.size → ¬ va_A wc H.size q → H1[q]? = H[q]?) (hP1 : va_P D vwCl wc' H1) : va_P D vwCl ws2 H1 ∧ va_D A ws2 := by
  have hlen : is.length = wc'.length := by
    have e1 := congrArg List.length hC
    have e2 := congrArg List.length hsame
    simp at e1 e2
    omega
  have adr : ∀ (k : Nat) (q : Nat × va_E), ws2[k]? = some q → ∃ q0, ws[k]? = some q0 ∧ q0.1 = q.1 := by
    intro k q hq
    rw [← h2] at hq
    rcases kFold is wc' ws k q hlen hq with ⟨j, g1, g2⟩ | ⟨-, g2⟩
    · have g3 : (wc'.map Prod.fst)[j]? = some q.1 := by rw [List.getElem?_map, g2]; rfl
      rw [hsame, List.getElem?_map] at g3
      cases hj : wc[j]? with
      | none => rw [hj] at g3; cases g3
      | some z =>
        rw [hj] at g3
        obtain ⟨i, h5, h6⟩ := kPick hC j z hj
        have : i = k := Option.some.inj (h5.symm.trans g1)
        subst this
        exact ⟨z, h6, Option.some.inj g3⟩
    · exact ⟨q, g2, rfl⟩
  refine ⟨fun k q hq => ?_, fun i j x z hx hz hxz => ?_, fun k q hq => ?_⟩
  · have hq' := hq
    rw [← h2] at hq'
    rcases kFold is wc' ws k q hlen hq' with ⟨j, g1, g2⟩ | ⟨g1, g2⟩
    · exact hP1 j q g2
    · have hl := (hP k q g2).lt
      refine (hP k q g2).kept (hk q.1 hl (fun h => ?_))
      rcases h with ⟨j, e, h⟩ | h
      · obtain ⟨i, h5, h6⟩ := kPick hC j (q.1, e) h
        have hij := hD.1 k i q (q.1, e) g2 h6 rfl
        subst hij
        exact g1 (List.mem_of_getElem? h5)
      · omega
  · obtain ⟨x0, a1, a2⟩ := adr i x hx
    obtain ⟨z0, b1, b2⟩ := adr j z hz
    exact hD.1 i j x0 z0 a1 b1 (a2.trans (hxz.trans b2.symm))
  · obtain ⟨q0, a1, a2⟩ := adr k q hq
    rw [← a2]
    exact hD.2 k q0 a1
/-- a part that comes back as it was -/
theorem kBackR {D : va_G} {A : Nat → Prop} {ws wc : va_W} {H H1 : Heap} {is : List Nat} (hP : va_P D vwCl ws H) (hD : va_D A ws) (hC : is.map (fun i => ws[i]?) = wc.map some)
    (hk : ∀ q : Nat, q < H.size → ¬ va_A wc H.size q → H1[q]? = H[q]?) (hP1 : va_P D vwCl wc H1) : va_P D vwCl ws H1 := by
  intro k q hq
  have hl := (hP k q hq).lt
  by_cases hA : va_A wc H.size q.1
  · rcases hA with ⟨j, e, h⟩ | h
    · obtain ⟨i, h5, h6⟩ := kPick hC j (q.1, e) h
      have hij := hD.1 k i q (q.1, e) hq h6 rfl
      subst hij
      have : q = (q.1, e) := Option.some.inj (hq.symm.trans h6)
      rw [this]
      exact hP1 j _ h
    · omega
  · exact (hP k q hq).kept (hk q.1 hl hA)
section KCL
variable {p : Program} {l : Launch} {e : Env} {R : Room} {s : State} {m : MethodId} {args : Array Value} {below : List Frame} {meth : Method} {c : Code} {H : Heap} {locs : List Loc} {cells slots : Nat} {Q : State → Prop}
variable {cc : ByteArray} {pc : Nat} {ls : Array Slot} {rest st0 st2 : List Value} {D : va_G} {A : Nat → Prop} {a : Array Value} {tys : List (ClassId × FieldType)} {ad : (Nat → Nat) × (Nat → Nat)} {ws ws2 wc wc' : va_W} {H0 : Heap} {maxL : Nat} {ret : Option FieldType} {own : String} {rv : Option Value}
theorem kGo (hr : va_Run p l e R s m args below meth c H locs cells slots 0 0 (F0 m pc ls st0) rest (kQ D (va_A wc H.size) rv wc' a) (va_A wc H.size)) (hw : kW D A H0 ws H locs) (hF : ∀ q, va_A wc H.size q → A q) (hst : rv.toList ++ rest = st2)
    (hb : ∀ H1 : Heap, (∀ q : Nat, q < H.size → ¬ va_A wc H.size q → H1[q]? = H[q]?) → va_P D vwCl wc' H1 → va_P D vwCl ws2 H1 ∧ va_D A ws2)
    (kk : ∀ (H1 : Heap) (locs1 : List Loc), kW D A H0 ws2 H1 locs1 → W p l e R s m args below meth c H1 locs1 cells slots Q (F0 m (pc + 3) ls st2)) : W p l e R s m args below meth c H locs cells slots Q (F0 m pc ls st0) := by
  subst hst
  intro T hT X
  obtain ⟨v, st₀, t, T', L, h0, X', hL, e1, e2, ⟨⟨hv, hP1, hD1⟩, hz, hk⟩, st⟩ := hr T hT X
  cases hv
  rw [h0] at hz hk
  rw [← e1] at hP1 hz hk
  obtain ⟨b1, b2⟩ := hb T'.heap hk hP1
  obtain ⟨t2, a1, c1⟩ := kk T'.heap (locs ++ L) ⟨b1, b2, Nat.le_trans hw.2.2.1 hz, fun q h1 h2 => by rw [hk q (Nat.lt_of_lt_of_le h1 hw.2.2.1) (fun z => h2 (hF q z))]; exact hw.2.2.2.1 q h1 h2, fun q hq => by
    rcases List.mem_append.mp hq with h | h
    · exact hw.2.2.2.2 q h
    · exact hF _ (hL q h)⟩ T' rfl X'
  exact ⟨t2, st t2 a1, c1⟩
theorem kPre {av : List Value} (C : kC p s m args meth c cc maxL ret own D tys ad A) (hw : kW D A s.heap ws H locs) (is : List Nat) (hn : va_nd is = true) (hC : is.map (fun i => ws[i]?) = wc.map some) : FrameBlind (kP D tys ad av wc H.size) ∧ ∀ U : State, U.heap = H → s.WarmedH U.vm → kP D tys ad av wc H.size av.toArray U := by
  refine ⟨kP_blind D tys ad av wc H.size, fun U hU hW => ⟨rfl, by rw [hU], ?_, va_K.moved hW.alike C.2.2.2.2.2.2.2.1, ?_, ?_⟩⟩
  · rw [hU]
    intro j q hq
    obtain ⟨i, h5, h6⟩ := kPick hC j q hq
    exact hw.1 i q h6
  · exact (hw.2.1.sub is hn hC).weaken (fun _ _ _ _ => trivial)
  · exact C.2.2.2.2.2.2.2.2.1.use hw.2.2 hW hU (va_free hw.2.1 hw.2.2 C.2.2.2.2.2.2.2.2.2 is hC)
variable {y : MethodName} {wy : List Cond} {rm : Room} {bytes : ByteArray} {maxLy n index : Nat} {rety : Option FieldType} {Cn : String} {b : Nat} {As : List Value}
/-- a virtual call: cells of the part may change -/
theorem kCallV (C : kC p s m args meth c cc maxL ret own D tys ad A) (hw : kW D A s.heap ws H locs) (hM : kM l y wy rm D tys ad (.ref b :: As) wc rv wc') (cw : CallW R s args own Cn index y bytes maxLy rety wy rm 0 0 n) (is : List Nat) (hn : va_nd is = true) (hC : is.map (fun i => ws[i]?) = wc.map some) (hsame : wc'.map Prod.fst = wc.map Prod.fst) (h2 : (is.zip wc').foldl (fun w x => w.set x.1 x.2) ws = ws2)
    (q0 ci : Nat) {fs : List Value} {T : u_T} {N : Nat} (he : ws[q0]? = some (b, .inr (ci, fs))) (hcl : vwCl[ci]? = some (Cn, T, N)) (hl : ls.size = maxL) (hlen : As.length = n) (hst0 : As.reverse ++ .ref b :: rest = st0) (hst : rv.toList ++ rest = st2) (hroom : (rest.map fun v => v.category).sum ≤ 8) (hf : cells ≤ R.cells ∧ slots ≤ R.slots) (hdg : decode cc pc = .ok (.invokevirtual index, 3))
    (kk : ∀ (H1 : Heap) (locs1 : List Loc), kW D A s.heap ws2 H1 locs1 → W p l e R s m args below meth c H1 locs1 cells slots Q (F0 m (pc + 3) ls st2)) : W p l e R s m args below meth c H locs cells slots Q (F0 m pc ls st0) := by
  subst hst0
  have hp := kPre (av := .ref b :: As) C hw is hn hC
  exact kGo (va_runV (g := F0 m pc ls (As.reverse ++ .ref b :: rest)) (As := As) (rest := rest) ⟨C.1, C.2.1, C.2.2.1, C.2.2.2.2.2.1, C.2.2.2.2.2.2.1⟩ (hM H.size) cw ⟨hp.1, va_recv C.2.2.2.2.2.2.2.1 hw.1 hcl he, hp.2⟩ rfl hlen hl rfl (lv_room hroom) hdg hf) hw (va_free hw.2.1 hw.2.2 C.2.2.2.2.2.2.2.2.2 is hC) hst (fun H1 g1 g2 => kBack hw.1 hw.2.1 hC hsame h2 g1 g2) kk
/-- a virtual call: the part comes back as it was -/
theorem kCallVR (C : kC p s m args meth c cc maxL ret own D tys ad A) (hw : kW D A s.heap ws H locs) (hM : kM l y wy rm D tys ad (.ref b :: As) wc rv wc) (cw : CallW R s args own Cn index y bytes maxLy rety wy rm 0 0 n) (is : List Nat) (hn : va_nd is = true) (hC : is.map (fun i => ws[i]?) = wc.map some)
    (q0 ci : Nat) {fs : List Value} {T : u_T} {N : Nat} (he : ws[q0]? = some (b, .inr (ci, fs))) (hcl : vwCl[ci]? = some (Cn, T, N)) (hl : ls.size = maxL) (hlen : As.length = n) (hst0 : As.reverse ++ .ref b :: rest = st0) (hst : rv.toList ++ rest = st2) (hroom : (rest.map fun v => v.category).sum ≤ 8) (hf : cells ≤ R.cells ∧ slots ≤ R.slots) (hdg : decode cc pc = .ok (.invokevirtual index, 3))
    (kk : ∀ (H1 : Heap) (locs1 : List Loc), kW D A s.heap ws H1 locs1 → W p l e R s m args below meth c H1 locs1 cells slots Q (F0 m (pc + 3) ls st2)) : W p l e R s m args below meth c H locs cells slots Q (F0 m pc ls st0) := by
  subst hst0
  have hp := kPre (av := .ref b :: As) C hw is hn hC
  exact kGo (va_runV (g := F0 m pc ls (As.reverse ++ .ref b :: rest)) (As := As) (rest := rest) ⟨C.1, C.2.1, C.2.2.1, C.2.2.2.2.2.1, C.2.2.2.2.2.2.1⟩ (hM H.size) cw ⟨hp.1, va_recv C.2.2.2.2.2.2.2.1 hw.1 hcl he, hp.2⟩ rfl hlen hl rfl (lv_room hroom) hdg hf) hw (va_free hw.2.1 hw.2.2 C.2.2.2.2.2.2.2.2.2 is hC) hst (fun H1 g1 g2 => ⟨kBackR hw.1 hw.2.1 hC g1 g2, hw.2.1⟩) kk
/-- a static call: cells of the part may change -/
theorem kCallS (C : kC p s m args meth c cc maxL ret own D tys ad A) (hw : kW D A s.heap ws H locs) (hM : kM l y wy rm D tys ad As wc rv wc') (cw : CallB R s args own index y bytes maxLy rety wy rm 0 0 n ∧ (Cond.static y).before args s = true) (is : List Nat) (hn : va_nd is = true) (hC : is.map (fun i => ws[i]?) = wc.map some) (hsame : wc'.map Prod.fst = wc.map Prod.fst) (h2 : (is.zip wc').foldl (fun w x => w.set x.1 x.2) ws = ws2)
    (hl : ls.size = maxL) (hlen : As.length = n) (hst0 : As.reverse ++ rest = st0) (hst : rv.toList ++ rest = st2) (hroom : (rest.map fun v => v.category).sum ≤ 8) (hf : cells ≤ R.cells ∧ slots ≤ R.slots) (hdg : decode cc pc = .ok (.invokestatic index, 3))
    (kk : ∀ (H1 : Heap) (locs1 : List Loc), kW D A s.heap ws2 H1 locs1 → W p l e R s m args below meth c H1 locs1 cells slots Q (F0 m (pc + 3) ls st2)) : W p l e R s m args below meth c H locs cells slots Q (F0 m pc ls st0) := by
  subst hst0
  have hp := kPre (av := As) C hw is hn hC
  exact kGo (va_runS (g := F0 m pc ls (As.reverse ++ rest)) (As := As) (rest := rest) ⟨C.1, C.2.1, C.2.2.1, C.2.2.2.2.2.1, C.2.2.2.2.2.2.1⟩ (hM H.size) cw hp rfl hlen hl rfl (lv_room hroom) hdg hf) hw (va_free hw.2.1 hw.2.2 C.2.2.2.2.2.2.2.2.2 is hC) hst (fun H1 g1 g2 => kBack hw.1 hw.2.1 hC hsame h2 g1 g2) kk
/-- a static call of a method without a world -/
theorem kCallSP (C : kC p s m args meth c cc maxL ret own D tys ad A) (hw : kW D A s.heap ws H locs) (hM : kM l y wy rm D tys ad As [] rv []) (cw : CallB R s args own index y bytes maxLy rety wy rm 0 0 n ∧ (Cond.static y).before args s = true)
    (hl : ls.size = maxL) (hlen : As.length = n) (hst0 : As.reverse ++ rest = st0) (hst : rv.toList ++ rest = st2) (hroom : (rest.map fun v => v.category).sum ≤ 8) (hf : cells ≤ R.cells ∧ slots ≤ R.slots) (hdg : decode cc pc = .ok (.invokestatic index, 3))
    (kk : ∀ (H1 : Heap) (locs1 : List Loc), kW D A s.heap ws H1 locs1 → W p l e R s m args below meth c H1 locs1 cells slots Q (F0 m (pc + 3) ls st2)) : W p l e R s m args below meth c H locs cells slots Q (F0 m pc ls st0) := by
  subst hst0
  have hp := kPre (av := As) (wc := []) C hw [] rfl rfl
  exact kGo (va_runS (g := F0 m pc ls (As.reverse ++ rest)) (As := As) (rest := rest) ⟨C.1, C.2.1, C.2.2.1, C.2.2.2.2.2.1, C.2.2.2.2.2.2.1⟩ (hM H.size) cw hp rfl hlen hl rfl (lv_room hroom) hdg hf) hw (va_free hw.2.1 hw.2.2 C.2.2.2.2.2.2.2.2.2 [] rfl) hst (fun H1 g1 g2 => ⟨kBackR (is := []) (wc := []) hw.1 hw.2.1 rfl g1 g2, hw.2.1⟩) kk
/-- the same, of a nest mate -/
theorem kCallSN (C : kC p s m args meth c cc maxL ret own D tys ad A) (hw : kW D A s.heap ws H locs) (hM : kM l y wy rm D tys ad As [] rv []) (cw : va_CN R s args own index y "DikeWatch" bytes maxLy rety wy rm 0 0 n ∧ (Cond.static y).before args s = true ∧ True)
    (hl : ls.size = maxL) (hlen : As.length = n) (hst0 : As.reverse ++ rest = st0) (hst : rv.toList ++ rest = st2) (hroom : (rest.map fun v => v.category).sum ≤ 8) (hf : cells ≤ R.cells ∧ slots ≤ R.slots) (hdg : decode cc pc = .ok (.invokestatic index, 3))
    (kk : ∀ (H1 : Heap) (locs1 : List Loc), kW D A s.heap ws H1 locs1 → W p l e R s m args below meth c H1 locs1 cells slots Q (F0 m (pc + 3) ls st2)) : W p l e R s m args below meth c H locs cells slots Q (F0 m pc ls st0) := by
  subst hst0
  have hp := kPre (av := As) (wc := []) C hw [] rfl rfl
  exact kGo (va_runSN (g := F0 m pc ls (As.reverse ++ rest)) (As := As) (rest := rest) ⟨C.1, C.2.1, C.2.2.1, C.2.2.2.2.2.1, C.2.2.2.2.2.2.1⟩ (hM H.size) cw hp rfl hlen hl rfl (lv_room hroom) hdg hf) hw (va_free hw.2.1 hw.2.2 C.2.2.2.2.2.2.2.2.2 [] rfl) hst (fun H1 g1 g2 => ⟨kBackR (is := []) (wc := []) hw.1 hw.2.1 rfl g1 g2, hw.2.1⟩) kk
end KCL
