/-! ===== the constant part of every contract: links of nest mates, the nine String constants, two statics of the JDK ===== -/
abbrev nwl : List (String × Nat × MethodName) := [(RX8, 9, yX6_init), (RX8, 12, yX7_init), (RX8, 74, yX5_init), (RX8, 81, yX0_init), (RX4, 120, yX8_isWithin), (RX3, 85, yX8_hasBit), (RX3, 104, yX8_reaches), (RX3, 139, yX8_orangesFor), (RX7, 68, yX8_isSetOf), (RX1, 63, yX8_hasBit), (RX2, 59, yX8_hasBit), (RX0, 21, yX8_reaches), (RX0, 25, yX8_orangesFor)]
abbrev sIx : List Nat := [45, 54, 59, 64, 71, 84, 86, 88, 90]
abbrev sTx : List String := ["dike", "tide", "seep", "dry", "school", "plain", "tired", "hoax", "deaf"]
abbrev sByt : List (List Int32) := [[100, 105, 107, 101], [116, 105, 100, 101], [115, 101, 101, 112], [100, 114, 121], [115, 99, 104, 111, 111, 108], [112, 108, 97, 105, 110], [116, 105, 114, 101, 100], [104, 111, 97, 120], [100, 101, 97, 102]]
abbrev sLen : List Nat := [4, 4, 4, 3, 6, 5, 5, 4, 4]
def kX (ad : (Nat → Nat) × (Nat → Nat)) (A : Nat → Prop) (U : State) (H : Heap) : Prop :=
  (∀ q ∈ nwl, va_Nw (.methodLinkNest q.1 q.2.1 q.2.2 "DikeWatch") U) ∧ (∀ i, i < 9 → vk_R RX4 (sIx.getD i 0) (sTx.getD i "") (ad.1 i) U) ∧ vk_S 9 sLen sByt ad.1 ad.2 A U H ∧ va_Z "java/lang/String" "COMPACT_STRINGS" "Z" (.int 1) A U H ∧ va_Zq "jdk/internal/util/Preconditions" "SIOOBE_FORMATTER" "Ljava/util/function/BiFunction;" A U H
theorem kX.use {ad : (Nat → Nat) × (Nat → Nat)} {A B : Nat → Prop} {s U : State} {H : Heap} {locs : List Loc} (h : kX ad A s s.heap) (hS : va_S A s.heap H locs) (hW : s.WarmedH U.vm) (hU : U.heap = H) (hAB : ∀ q, B q → A q) : kX ad B U U.heap := by
  obtain ⟨h1, h2, h3, h4, h5⟩ := h
  rw [hU]
  exact ⟨fun q hq => va_Nw.warmM hW (h1 q hq), fun i hi => (h2 i hi).warm hW, ((vk_S.moved hW.alike h3).kept hS.2.1).narrow hAB, ((va_Z.moved hW.alike h4).kept hS.2.1).narrow hAB, ((va_Zq.moved hW.alike h5).kept hS.2.1).narrow hAB⟩
theorem kX.calling {ad : (Nat → Nat) × (Nat → Nat)} {A : Nat → Prop} {U : State} {g : JFrame} {mk : MethodId} {a : Array Value} (h : kX ad A U U.heap) : kX ad A (U.calling g mk a) (U.calling g mk a).heap := by
  obtain ⟨h1, h2, h3, h4, h5⟩ := h
  exact ⟨fun q hq => va_Nw.same rfl (rfl : U.vm = (U.calling g mk a).vm) (h1 q hq), fun i hi => vk_R.same (rfl : (U.calling g mk a).vm = U.vm) (h2 i hi), vk_S.moved (U := U.calling g mk a) (Vm.Alike.refl U.vm) h3, va_Z.moved (U := U.calling g mk a) (Vm.Alike.refl U.vm) h4, va_Zq.moved (U := U.calling g mk a) (Vm.Alike.refl U.vm) h5⟩
/-! ===== the one form of a contract: a method that makes no cells ===== -/
def kP (D : va_G) (tys : List (ClassId × FieldType)) (ad : (Nat → Nat) × (Nat → Nat)) (av : List Value) (ws : va_W) (sz : Nat) : Array Value → State → Prop :=
  va_Pc av (fun U => U.heap.size = sz ∧ va_P D vwCl ws U.heap ∧ va_K D vwCl tys U ∧ va_D (fun _ => True) ws ∧ kX ad (va_A ws sz) U U.heap)
theorem kP_blind (D : va_G) (tys : List (ClassId × FieldType)) (ad : (Nat → Nat) × (Nat → Nat)) (av : List Value) (ws : va_W) (sz : Nat) : FrameBlind (kP D tys ad av ws sz) := by
  intro a U g mk q
  obtain ⟨q0, q1, qP, qK, qD, qX⟩ := q
  exact ⟨q0, q1, qP, va_K.moved (u := U) (U := U.calling g mk a) (Vm.Alike.refl U.vm) qK, qD, qX.calling⟩
def kQ (D : va_G) (A : Nat → Prop) (rv : Option Value) (ws' : va_W) : Array Value → State → Outcome → State → Prop := fun _ st oc t =>
  (oc = .returned rv ∧ va_P D vwCl ws' t.heap ∧ va_D A ws') ∧ va_F A st t
def kM (l : Launch) (y : MethodName) (w : List Cond) (rm : Room) (D : va_G) (tys : List (ClassId × FieldType)) (ad : (Nat → Nat) × (Nat → Nat)) (av : List Value) (ws : va_W) (rv : Option Value) (ws' : va_W) : Prop :=
  ∀ sz : Nat, Met l y w rm (kP D tys ad av ws sz) (kQ D (va_A ws sz) rv ws') 0 0 (va_A ws sz)
/-- the world inside a body -/
def kW (D : va_G) (A : Nat → Prop) (H0 : Heap) (ws : va_W) (H : Heap) (locs : List Loc) : Prop := va_P D vwCl ws H ∧ va_D A ws ∧ va_S A H0 H locs
/-- what holds all through a body -/
def kC (p : Program) (s : State) (m : MethodId) (args : Array Value) (meth : Method) (c : Code) (cc : ByteArray) (maxL : Nat) (ret : Option FieldType) (own : String) (D : va_G) (tys : List (ClassId × FieldType)) (ad : (Nat → Nat) × (Nat → Nat)) (A : Nat → Prop) : Prop :=
  p.tables.exec = Jvm.exec ∧ c.code = cc ∧ c.maxLocals = maxL ∧ meth.sig.returnType = ret ∧ meth.locks = false ∧ s.vm.findClass own = some m.cls ∧ (∀ w ∈ W0, w.before args s = true) ∧ va_K D vwCl tys s ∧ kX ad A s s.heap ∧ ∀ q : Nat, s.heap.size ≤ q → A q
/-- a body's end -/
def kZ (below : List Frame) (D : va_G) (A : Nat → Prop) (rv : Option Value) (ws' : va_W) (args : Array Value) (s : State) : State → Prop := MQ below (kQ D A rv ws') args s 0 0 A
theorem kOfW {l : Launch} {y : MethodName} {ws ws' : List Cond} {rm : Room} {Pc : Array Value → State → Prop} {Qc : Array Value → State → Outcome → State → Prop} {mc ms : Nat} {free : Addr → Prop} {cc : ByteArray} {maxL : Nat} {ret : Option FieldType}
    (hy : plainFor y = true) (hw : ws = Cond.code y cc maxL ret :: ws')
    (body : ∀ p e s m args below meth c s₁, BodyLoose p l y (headSpec ws rm) cc maxL ret e s m args below meth c s₁ → c.maxLocals = maxL → Pc args s →
      W p l e (headSpec ws rm).room s m args below meth c s.heap [] 0 0 (MQ below Qc args s mc ms free) (entryFrame m args maxL)) : Met l y ws rm Pc Qc mc ms free := by
  refine MetFree.of_bodySF (code := cc) (maxLocals := maxL) (ret := ret) hy ?_ ?_
  · intro args s m h hn
    obtain ⟨meth, c, h1, h2, h3, h4, h5, h6, -, -⟩ := Cond.code_spec hn (atoms_spec (ws := ws) h _ (by rw [hw]; exact List.mem_cons_self))
    exact ⟨meth, c, h1, h2, h3, h4, h5, h6⟩
  · intro p e s m args below meth c s₁ B hml hP _
    have hh0 : s₁.heap = s.heap := by rw [B.state]; rfl
    obtain ⟨t, a1, o, b1, b2, b3⟩ := body p e s m args below meth c s₁ B hml hP s₁ hh0 (Stand.of_body B)
    exact ⟨t, o, a1, b1, b2, ⟨b3.1, b3.2⟩⟩
theorem kStart {l : Launch} {y : MethodName} {rm : Room} {D : va_G} {tys : List (ClassId × FieldType)} {ad : (Nat → Nat) × (Nat → Nat)} {av : List Value} {ws : va_W} {rv : Option Value} {ws' : va_W} {cc : ByteArray} {maxL : Nat} {ret : Option FieldType} {lv : List (Nat × Value)} {own : String}
    (hy : plainFor y = true) (ho : y.cls = own) (hn : (lg_sl av).length ≤ maxL) (hlv : lv_args 0 av = lv)
    (body : ∀ (p : Program) (e : Env) (s : State) (m : MethodId) (args : Array Value) (below : List Frame) (meth : Method) (c : Code) (A : Nat → Prop) (Q : State → Prop) (ls : Array Slot), Q = kZ below D A rv ws' args s → kC p s m args meth c cc maxL ret own D tys ad A → p.tables.exec = Jvm.exec → c.code = cc → kW D A s.heap ws s.heap [] → lv_has ls maxL lv →
      W p l e rm s m args below meth c s.heap [] 0 0 Q (F0 m 0 ls [])) : kM l y (Cond.code y cc maxL ret :: W0) rm D tys ad av ws rv ws' := by
  intro sz
  refine kOfW (cc := cc) (maxL := maxL) (ret := ret) hy rfl ?_
  intro p e s m args below meth c s₁ B hml hv
  obtain ⟨rfl, hsz, hP, hK, hD0, hX⟩ := hv
  subst hsz
  have hl := lv_entry av (n := maxL) hn
  rw [lg_entry_eq]
  rw [hlv] at hl
  have hts := atoms_spec (ws := Cond.code y cc maxL ret :: W0) B.pre
  exact body p e s m _ below meth c (va_A ws s.heap.size) _ _ rfl ⟨B.exec, B.bytes, hml, B.returns, B.notSynchronized, by rw [← ho]; exact findClass_of_methodNamed B.named, fun w h => hts w (List.mem_cons_of_mem _ h), hK, hX, fun q h => Or.inr h⟩ B.exec B.bytes ⟨hP, hD0.self, va_S.rf⟩ hl
section KR
variable {p : Program} {l : Launch} {e : Env} {R : Room} {s : State} {m : MethodId} {args : Array Value} {below : List Frame} {meth : Method} {c : Code} {H : Heap} {locs : List Loc} {cells slots : Nat} {Q : State → Prop}
variable {cc : ByteArray} {pc : Nat} {ls : Array Slot} {rest : List Value} {D : va_G} {A : Nat → Prop} {a : Nat} {tys : List (ClassId × FieldType)} {ad : (Nat → Nat) × (Nat → Nat)} {ws ws' : va_W} {H0 : Heap} {maxL : Nat} {ret : Option FieldType} {own : String}
theorem kRetI {v : Int32} (hQ : Q = kZ below D A (some (.int v)) ws args s) (C : kC p s m args meth c cc maxL (some .int) own D tys ad A) (hw : kW D A s.heap ws H locs) (hdg : decode cc pc = .ok (.ireturn, 1)) : W p l e R s m args below meth c H locs 0 0 Q (F0 m pc ls [.int v]) := by
  subst hQ
  exact W.iret C.1 C.2.1 C.2.2.2.1 (fun t ht hW => ⟨⟨rfl, by rw [ht]; exact hw.1, hw.2.1⟩, hw.2.2.F ht⟩) hw.2.2.2.2 hdg C.2.2.2.2.1
theorem kRetZ {v : Int32} {ty : FieldType} (hQ : Q = kZ below D A (some (.int v)) ws args s) (C : kC p s m args meth c cc maxL (some ty) own D tys ad A) (hn : narrow ty (.int v) = .int v) (hw : kW D A s.heap ws H locs) (hdg : decode cc pc = .ok (.ireturn, 1)) : W p l e R s m args below meth c H locs 0 0 Q (F0 m pc ls [.int v]) := by
  subst hQ
  exact W.zret C.1 C.2.1 C.2.2.2.1 hn (fun t ht hW => ⟨⟨rfl, by rw [ht]; exact hw.1, hw.2.1⟩, hw.2.2.F ht⟩) hw.2.2.2.2 hdg C.2.2.2.2.1
theorem kRetL {v : Int64} (hQ : Q = kZ below D A (some (.long v)) ws args s) (C : kC p s m args meth c cc maxL (some .long) own D tys ad A) (hw : kW D A s.heap ws H locs) (hdg : decode cc pc = .ok (.lreturn, 1)) : W p l e R s m args below meth c H locs 0 0 Q (F0 m pc ls [.long v]) := by
  subst hQ
  exact W.lret C.1 C.2.1 C.2.2.2.1 (fun t ht hW => ⟨⟨rfl, by rw [ht]; exact hw.1, hw.2.1⟩, hw.2.2.F ht⟩) hw.2.2.2.2 hdg C.2.2.2.2.1
theorem kRetV (hQ : Q = kZ below D A none ws args s) (C : kC p s m args meth c cc maxL none own D tys ad A) (hw : kW D A s.heap ws H locs) (hdg : decode cc pc = .ok (.return_, 1)) : W p l e R s m args below meth c H locs 0 0 Q (F0 m pc ls []) := by
  subst hQ
  exact W.vret C.1 C.2.1 C.2.2.2.1 (fun t ht hW => ⟨⟨rfl, by rw [ht]; exact hw.1, hw.2.1⟩, hw.2.2.F ht⟩) hw.2.2.2.2 hdg C.2.2.2.2.1
theorem kRetA {v : Nat} {n : String} (hQ : Q = kZ below D A (some (.ref v)) ws args s) (C : kC p s m args meth c cc maxL (some (.object n)) own D tys ad A) (hw : kW D A s.heap ws H locs) (hdg : decode cc pc = .ok (.areturn, 1)) : W p l e R s m args below meth c H locs 0 0 Q (F0 m pc ls [.ref v]) := by
  subst hQ
  exact W.aret C.1 C.2.1 C.2.2.2.1 (Or.inl ⟨n, rfl⟩) (Or.inr ⟨v, rfl⟩) (fun t ht hW => ⟨⟨rfl, by rw [ht]; exact hw.1, hw.2.1⟩, hw.2.2.F ht⟩) hw.2.2.2.2 hdg C.2.2.2.2.1
/-- names for values on the stack -/
theorem kNm {v x : Value} (h : v = x) (k : W p l e R s m args below meth c H locs cells slots Q (F0 m pc ls (v :: rest))) : W p l e R s m args below meth c H locs cells slots Q (F0 m pc ls (x :: rest)) := h ▸ k
theorem kNmI {v x : Int32} (h : v = x) (k : W p l e R s m args below meth c H locs cells slots Q (F0 m pc ls (.int v :: rest))) : W p l e R s m args below meth c H locs cells slots Q (F0 m pc ls (.int x :: rest)) := h ▸ k
theorem kNmL {v x : Int64} (h : v = x) (k : W p l e R s m args below meth c H locs cells slots Q (F0 m pc ls (.long v :: rest))) : W p l e R s m args below meth c H locs cells slots Q (F0 m pc ls (.long x :: rest)) := h ▸ k
/-- fields -/
theorem kGet {ref Cn : String} {T : u_T} {N ci index : Nat} (C : kC p s m args meth c cc maxL ret own D tys ad A) (hin : ∀ w ∈ u_ws Cn T N, w ∈ W0) (hw : kW D A H0 ws H locs) (q0 : Nat) {fs : List Value} (he : ws[q0]? = some (a, .inr (ci, fs))) (hc : vwCl[ci]? = some (Cn, T, N)) (k : Nat) (hk : k < N) (hlink : (Cond.fieldLink own index ref (T k).2.1 (T k).2.2.1).before args s = true) (hsame : (T k).1 = ref) {v : Value} (hv : fs[k]? = some v) (hdg : decode cc pc = .ok (.getfield index, 3))
    (kk : W p l e R s m args below meth c H locs cells slots Q (F0 m (pc + 3) ls (v :: rest))) : W p l e R s m args below meth c H locs cells slots Q (F0 m pc ls (.ref a :: rest)) := by
  subst hsame
  exact va_get C.1 C.2.1 C.2.2.2.2.2.2.1 hin C.2.2.2.2.2.1 C.2.2.2.2.2.2.2.1 hw.1 q0 he hc k hk hlink (fun _ h => h) hv hdg kk
theorem kPut {ref Cn : String} {T : u_T} {N ci index : Nat} (C : kC p s m args meth c cc maxL ret own D tys ad A) (hin : ∀ w ∈ u_ws Cn T N, w ∈ W0) (ty0 : Nat → FieldType) (hty : ∀ k, k < N → parseFieldDescriptor (T k).2.2.1 = some (ty0 k)) (hnm : ∀ a, a < N → ∀ b, b < N → a ≠ b → (T a).2.1 ≠ (T b).2.1) (hw : kW D A H0 ws H locs) (q0 : Nat) {fs : List Value} (he : ws[q0]? = some (a, .inr (ci, fs))) (hc : vwCl[ci]? = some (Cn, T, N)) (k : Nat) (hk : k < N) (hlink : (Cond.fieldLink own index ref (T k).2.1 (T k).2.2.1).before args s = true) (hsame : (T k).1 = ref) (hfin : (T k).2.2.2 = false) {v : Value} (hn : narrow (ty0 k) v = v) (hfit : fits (ty0 k) v = true) (hl : k < fs.length) (hs : ws.set q0 (a, .inr (ci, fs.set k v)) = ws')
    (hdg : decode cc pc = .ok (.putfield index, 3)) (kk : ∀ (H1 : Heap) (locs1 : List Loc), kW D A H0 ws' H1 locs1 → W p l e R s m args below meth c H1 locs1 cells slots Q (F0 m (pc + 3) ls rest)) : W p l e R s m args below meth c H locs cells slots Q (F0 m pc ls (v :: .ref a :: rest)) := by
  subst hsame; subst hs
  exact va_put C.1 C.2.1 C.2.2.2.2.2.2.1 hin ty0 hty hnm C.2.2.2.2.2.1 C.2.2.2.2.2.2.2.1 hw.1 hw.2.1 hw.2.2 q0 he hc k hk hlink (fun _ h => h) hfin (hty k hk) hn hfit hl hdg (fun H1 locs1 a1 a2 a3 => kk H1 locs1 ⟨a1, a2, a3⟩)
/-- arrays -/
theorem kIald (C : kC p s m args meth c cc maxL ret own D tys ad A) (hw : kW D A H0 ws H locs) (q0 t0 : Nat) {cA : ClassId} {n : Nat} {f : Nat → Int32} (ha : ws[q0]? = some (a, .inl (cA, n, .inl f))) (ht : tys[t0]? = some (cA, .int)) {i v : Int32} (hin : vp_in i n) (hv : v = f i.toNatClampNeg) (hdg : decode cc pc = .ok (.iaload, 1))
    (kk : W p l e R s m args below meth c H locs cells slots Q (F0 m (pc + 1) ls (.int v :: rest))) : W p l e R s m args below meth c H locs cells slots Q (F0 m pc ls (.int i :: .ref a :: rest)) := by
  subst hv
  exact va_iald C.1 C.2.1 C.2.2.2.2.2.2.2.1 hw.1 q0 t0 ha ht hin hdg kk
theorem kBald (C : kC p s m args meth c cc maxL ret own D tys ad A) (hw : kW D A H0 ws H locs) (q0 t0 : Nat) {cA : ClassId} {n : Nat} {f : Nat → Int32} (ha : ws[q0]? = some (a, .inl (cA, n, .inl f))) (ht : tys[t0]? = some (cA, .byte)) {i v : Int32} (hin : vp_in i n) (hv : v = f i.toNatClampNeg) (hdg : decode cc pc = .ok (.baload, 1))
    (kk : W p l e R s m args below meth c H locs cells slots Q (F0 m (pc + 1) ls (.int v :: rest))) : W p l e R s m args below meth c H locs cells slots Q (F0 m pc ls (.int i :: .ref a :: rest)) := by
  subst hv
  exact va_bald C.1 C.2.1 C.2.2.2.2.2.2.2.1 hw.1 q0 t0 ha ht hin hdg kk
theorem kZald (C : kC p s m args meth c cc maxL ret own D tys ad A) (hw : kW D A H0 ws H locs) (q0 t0 : Nat) {cA : ClassId} {n : Nat} {f : Nat → Int32} (ha : ws[q0]? = some (a, .inl (cA, n, .inl f))) (ht : tys[t0]? = some (cA, .boolean)) {i v : Int32} (hin : vp_in i n) (hv : v = f i.toNatClampNeg) (hdg : decode cc pc = .ok (.baload, 1))
    (kk : W p l e R s m args below meth c H locs cells slots Q (F0 m (pc + 1) ls (.int v :: rest))) : W p l e R s m args below meth c H locs cells slots Q (F0 m pc ls (.int i :: .ref a :: rest)) := by
  subst hv
  exact va_zald C.1 C.2.1 C.2.2.2.2.2.2.2.1 hw.1 q0 t0 ha ht hin hdg kk
theorem kLald (C : kC p s m args meth c cc maxL ret own D tys ad A) (hw : kW D A H0 ws H locs) (q0 t0 : Nat) {cA : ClassId} {n : Nat} {f : Nat → Int64} (ha : ws[q0]? = some (a, .inl (cA, n, .inr (.inl f)))) (ht : tys[t0]? = some (cA, .long)) {i : Int32} {v : Int64} (hin : vp_in i n) (hv : v = f i.toNatClampNeg) (hdg : decode cc pc = .ok (.laload, 1))
    (kk : W p l e R s m args below meth c H locs cells slots Q (F0 m (pc + 1) ls (.long v :: rest))) : W p l e R s m args below meth c H locs cells slots Q (F0 m pc ls (.int i :: .ref a :: rest)) := by
  subst hv
  exact va_lald C.1 C.2.1 C.2.2.2.2.2.2.2.1 hw.1 q0 t0 ha ht hin hdg kk
theorem kIast (C : kC p s m args meth c cc maxL ret own D tys ad A) (hw : kW D A H0 ws H locs) (q0 t0 : Nat) {cA : ClassId} {n : Nat} {f g : Nat → Int32} (ha : ws[q0]? = some (a, .inl (cA, n, .inl f))) (ht : tys[t0]? = some (cA, .int)) {i x : Int32} (hin : vp_in i n) (hg : g = upd f i.toNatClampNeg x) (hs : ws.set q0 (a, .inl (cA, n, .inl g)) = ws') (hdg : decode cc pc = .ok (.iastore, 1))
    (kk : ∀ (H1 : Heap) (locs1 : List Loc), kW D A H0 ws' H1 locs1 → W p l e R s m args below meth c H1 locs1 cells slots Q (F0 m (pc + 1) ls rest)) : W p l e R s m args below meth c H locs cells slots Q (F0 m pc ls (.int x :: .int i :: .ref a :: rest)) := by
  subst hs; subst hg
  exact va_iast C.1 C.2.1 C.2.2.2.2.2.2.2.1 hw.1 hw.2.1 hw.2.2 q0 t0 ha ht hin hdg (fun H1 locs1 a1 a2 a3 => kk H1 locs1 ⟨a1, a2, a3⟩)
theorem kBast (C : kC p s m args meth c cc maxL ret own D tys ad A) (hw : kW D A H0 ws H locs) (q0 t0 : Nat) {cA : ClassId} {n : Nat} {f g : Nat → Int32} (ha : ws[q0]? = some (a, .inl (cA, n, .inl f))) (ht : tys[t0]? = some (cA, .byte)) {i x : Int32} (hin : vp_in i n) (hg : g = upd f i.toNatClampNeg (vp_nar .byte x)) (hs : ws.set q0 (a, .inl (cA, n, .inl g)) = ws') (hdg : decode cc pc = .ok (.bastore, 1))
    (kk : ∀ (H1 : Heap) (locs1 : List Loc), kW D A H0 ws' H1 locs1 → W p l e R s m args below meth c H1 locs1 cells slots Q (F0 m (pc + 1) ls rest)) : W p l e R s m args below meth c H locs cells slots Q (F0 m pc ls (.int x :: .int i :: .ref a :: rest)) := by
  subst hs; subst hg
  exact va_bast C.1 C.2.1 C.2.2.2.2.2.2.2.1 hw.1 hw.2.1 hw.2.2 q0 t0 ha ht hin hdg (fun H1 locs1 a1 a2 a3 => kk H1 locs1 ⟨a1, a2, a3⟩)
theorem kZast (C : kC p s m args meth c cc maxL ret own D tys ad A) (hw : kW D A H0 ws H locs) (q0 t0 : Nat) {cA : ClassId} {n : Nat} {f g : Nat → Int32} (ha : ws[q0]? = some (a, .inl (cA, n, .inl f))) (ht : tys[t0]? = some (cA, .boolean)) {i x : Int32} (hin : vp_in i n) (hg : g = upd f i.toNatClampNeg (vp_nar .boolean x)) (hs : ws.set q0 (a, .inl (cA, n, .inl g)) = ws') (hdg : decode cc pc = .ok (.bastore, 1))
    (kk : ∀ (H1 : Heap) (locs1 : List Loc), kW D A H0 ws' H1 locs1 → W p l e R s m args below meth c H1 locs1 cells slots Q (F0 m (pc + 1) ls rest)) : W p l e R s m args below meth c H locs cells slots Q (F0 m pc ls (.int x :: .int i :: .ref a :: rest)) := by
  subst hs; subst hg
  exact va_zast C.1 C.2.1 C.2.2.2.2.2.2.2.1 hw.1 hw.2.1 hw.2.2 q0 t0 ha ht hin hdg (fun H1 locs1 a1 a2 a3 => kk H1 locs1 ⟨a1, a2, a3⟩)
theorem kLast (C : kC p s m args meth c cc maxL ret own D tys ad A) (hw : kW D A H0 ws H locs) (q0 t0 : Nat) {cA : ClassId} {n : Nat} {f g : Nat → Int64} (ha : ws[q0]? = some (a, .inl (cA, n, .inr (.inl f)))) (ht : tys[t0]? = some (cA, .long)) {i : Int32} {x : Int64} (hin : vp_in i n) (hg : g = vp_updL f i.toNatClampNeg x) (hs : ws.set q0 (a, .inl (cA, n, .inr (.inl g))) = ws') (hdg : decode cc pc = .ok (.lastore, 1))
    (kk : ∀ (H1 : Heap) (locs1 : List Loc), kW D A H0 ws' H1 locs1 → W p l e R s m args below meth c H1 locs1 cells slots Q (F0 m (pc + 1) ls rest)) : W p l e R s m args below meth c H locs cells slots Q (F0 m pc ls (.long x :: .int i :: .ref a :: rest)) := by
  subst hs; subst hg
  exact va_last C.1 C.2.1 C.2.2.2.2.2.2.2.1 hw.1 hw.2.1 hw.2.2 q0 t0 ha ht hin hdg (fun H1 locs1 a1 a2 a3 => kk H1 locs1 ⟨a1, a2, a3⟩)
theorem kAlen (C : kC p s m args meth c cc maxL ret own D tys ad A) (hw : kW D A H0 ws H locs) (q0 t0 : Nat) {cA : ClassId} {x : vp_A} (ha : ws[q0]? = some (a, .inl (cA, x))) {ty : FieldType} (ht : tys[t0]? = some (cA, ty)) {v : Int32} (hv : Int32.ofNat x.1 = v) (hdg : decode cc pc = .ok (.arraylength, 1))
    (kk : W p l e R s m args below meth c H locs cells slots Q (F0 m (pc + 1) ls (.int v :: rest))) : W p l e R s m args below meth c H locs cells slots Q (F0 m pc ls (.ref a :: rest)) :=
  va_alen C.1 C.2.1 C.2.2.2.2.2.2.2.1 hw.1 q0 t0 ha ht hv hdg kk
theorem kCopyI (C : kC p s m args meth c cc maxL ret own D tys ad A) (hml : ls.size = maxL) {index : Nat} (hlink : (Cond.methodLink own index arraycopyName).before args s = true) (hnat : (Cond.native arraycopyName).before args s = true) (hstat : (Cond.static arraycopyName).before args s = true) (hini : (Cond.initialized "java/lang/System").before args s = true)
    (hw : kW D A H0 ws H locs) (q0 q1 t0 : Nat) {a0 : Nat} {cA : ClassId} {n0 n1 : Nat} {f g g' : Nat → Int32} (ha0 : ws[q0]? = some (a0, .inl (cA, n0, .inl f))) (ha1 : ws[q1]? = some (a, .inl (cA, n1, .inl g))) (ht0 : tys[t0]? = some (cA, .int))
    {n : Int32} (h3 : ¬ n < 0) (h4 : n.toNatClampNeg ≤ n0) (h5 : n.toNatClampNeg ≤ n1) (hg : g' = va_cpy f g 0 0 n.toNatClampNeg) (hs : ws.set q1 (a, .inl (cA, n1, .inl g')) = ws')
    (hframes : 1 ≤ R.frames) (hlocals : (rest.map fun v => v.category).sum + (nativeFrameWords "java/lang/System" "arraycopy" 5 + 11) ≤ R.locals) (hdg : decode cc pc = .ok (.invokestatic index, 3))
    (kk : ∀ (H1 : Heap) (locs1 : List Loc), kW D A H0 ws' H1 locs1 → W p l e R s m args below meth c H1 locs1 cells slots Q (F0 m (pc + 3) ls rest)) : W p l e R s m args below meth c H locs cells slots Q (F0 m pc ls (.int n :: .int 0 :: .ref a :: .int 0 :: .ref a0 :: rest)) := by
  subst hs; subst hg
  exact va_copyi (ty := .int) C.1 C.2.1 (C.2.2.1.trans hml.symm) C.2.2.2.2.2.1 hlink hnat hstat hini C.2.2.2.2.2.2.2.1 hw.1 hw.2.1 hw.2.2 q0 q1 t0 t0 ha0 ha1 ht0 ht0 rfl (by decide) (by decide) h3 (by simpa using h4) (by simpa using h5) (fun i _ => rfl) hframes hlocals hdg (fun H1 locs1 a1 a2 a3 => kk H1 locs1 ⟨a1, a2, a3⟩)
end KR
