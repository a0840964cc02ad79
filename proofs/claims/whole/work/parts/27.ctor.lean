/-! ===== constructors: methods that make cells ===== -/
def kQI (D : va_G) (A : Nat → Prop) {S : Type} (post : S → va_W) : Array Value → State → Outcome → State → Prop := fun _ st oc t =>
  (∃ u : S, oc = .returned none ∧ va_P D vwCl (post u) t.heap ∧ va_D A (post u)) ∧ va_F A st t
def kI (l : Launch) (y : MethodName) (w : List Cond) (rm : Room) (D : va_G) (tys : List (ClassId × FieldType)) (ad : (Nat → Nat) × (Nat → Nat)) (av : List Value) (ws : va_W) {S : Type} (post : S → va_W) (mc ms : Nat) : Prop :=
  ∀ sz : Nat, Met l y w rm (kP D tys ad av ws sz) (kQI D (va_A ws sz) post) mc ms (va_A ws sz)
theorem kStartI {l : Launch} {y : MethodName} {rm : Room} {D : va_G} {tys : List (ClassId × FieldType)} {ad : (Nat → Nat) × (Nat → Nat)} {av : List Value} {ws : va_W} {S : Type} {post : S → va_W} {mc ms : Nat} {cc : ByteArray} {maxL : Nat} {lv : List (Nat × Value)} {own : String}
    (hy : plainFor y = true) (ho : y.cls = own) (hyn : y.name = "<init>") (hn : (lg_sl av).length ≤ maxL) (hlv : lv_args 0 av = lv)
    (body : ∀ (p : Program) (e : Env) (s : State) (m : MethodId) (args : Array Value) (below : List Frame) (meth : Method) (c : Code) (A : Nat → Prop) (Q : State → Prop) (ls : Array Slot), Q = MQ below (kQI D A post) args s mc ms A → kC p s m args meth c cc maxL none own D tys ad A → meth.name = "<init>" → p.tables.exec = Jvm.exec → c.code = cc → kW D A s.heap ws s.heap [] → lv_has ls maxL lv →
      W p l e rm s m args below meth c s.heap [] 0 0 Q (F0 m 0 ls [])) : kI l y (Cond.code y cc maxL none :: W0) rm D tys ad av ws post mc ms := by
  intro sz
  refine kOfW (cc := cc) (maxL := maxL) (ret := none) hy rfl ?_
  intro p e s m args below meth c s₁ B hml hv
  obtain ⟨rfl, hsz, hP, hK, hD0, hX⟩ := hv
  subst hsz
  have hl := lv_entry av (n := maxL) hn
  rw [lg_entry_eq]
  rw [hlv] at hl
  have hts := atoms_spec (ws := Cond.code y cc maxL none :: W0) B.pre
  exact body p e s m _ below meth c (va_A ws s.heap.size) _ _ rfl ⟨B.exec, B.bytes, hml, B.returns, B.notSynchronized, by rw [← ho]; exact findClass_of_methodNamed B.named, fun w h => hts w (List.mem_cons_of_mem _ h), hK, hX, fun q h => Or.inr h⟩ ((name_of_methodNamed B.named B.method).1.trans hyn) B.exec B.bytes ⟨hP, hD0.self, va_S.rf⟩ hl
theorem va_RA_inj {U : State} {a b : ClassId} {ty : FieldType} (hno : ∀ nm, ty ≠ .object nm) (h1 : va_RA U a ty) (h2 : va_RA U b ty) : a = b := by
  cases ty <;> first | exact absurd rfl (hno _) | exact Option.some.inj (Eq.trans (Eq.symm h1) h2)
section KCT
variable {p : Program} {l : Launch} {e : Env} {R : Room} {s : State} {m : MethodId} {args : Array Value} {below : List Frame} {meth : Method} {c : Code} {H : Heap} {locs : List Loc} {cells slots : Nat} {Q : State → Prop}
variable {cc : ByteArray} {pc : Nat} {ls : Array Slot} {rest st0 : List Value} {D : va_G} {A : Nat → Prop} {tys : List (ClassId × FieldType)} {ad : (Nat → Nat) × (Nat → Nat)} {ws ws' wc wr : va_W} {maxL : Nat} {ret : Option FieldType} {own : String} {a : Nat} {H0 : Heap}
theorem kRetVI {S : Type} {post : S → va_W} (u : S) (hQ : Q = MQ below (kQI D A post) args s cells slots A) (C : kC p s m args meth c cc maxL none own D tys ad A) (hw : kW D A s.heap (post u) H locs) (hdg : decode cc pc = .ok (.return_, 1)) : W p l e R s m args below meth c H locs cells slots Q (F0 m pc ls []) := by
  subst hQ
  exact W.vret C.1 C.2.1 C.2.2.2.1 (fun t ht hW => ⟨⟨u, rfl, by rw [ht]; exact hw.1, hw.2.1⟩, hw.2.2.F ht⟩) hw.2.2.2.2 hdg C.2.2.2.2.1
theorem kNewA {atype : ArrayType} {ty : FieldType} (t0 : Nat) {cA : ClassId} {n : Int32} {N' : Nat} (a0 : vp_A) (ws' : Nat → va_W) (C : kC p s m args meth c cc maxL ret own D tys ad A) (harr : Cond.arrayClass (newarray.typeOf atype) ∈ W0) (hty : newarray.typeOf atype = ty) (ht : tys[t0]? = some (cA, ty)) (hno : ∀ nm, ty ≠ .object nm) (hw : kW D A s.heap ws H locs) (ha : ∀ cA : ClassId, vp_cell cA a0 = arrV cA N' (fun _ => defaultValue ty)) (hn : ¬ n < 0) (hN : n.toNatClampNeg = N') (hbytes : N' * componentBytes ty ≤ 536870912) (hcells : cells + 1 ≤ R.cells) (hslots : slots + N' ≤ R.slots) (hs : ∀ q, ws ++ [(q, .inl (cA, a0))] = ws' q) (hdg : decode cc pc = .ok (.newarray atype, 2))
    (kk : ∀ (q : Nat) (H1 : Heap), kW D A s.heap (ws' q) H1 locs → W p l e R s m args below meth c H1 locs (cells + 1) (slots + N') Q (F0 m (pc + 2) ls (.ref q :: rest))) : W p l e R s m args below meth c H locs cells slots Q (F0 m pc ls (.int n :: rest)) := by
  refine va_newa C.1 C.2.1 (C.2.2.2.2.2.2.1 _ harr) hty C.2.2.2.2.2.2.2.1 hw.1 hw.2.1 hw.2.2 C.2.2.2.2.2.2.2.2.2 ha hn hN hbytes hcells hslots hdg (fun q cA' H1 hK' hP hD hS => ?_)
  have h1 : (tys ++ [(cA', ty)])[tys.length]? = some (cA', ty) := by simp
  have e : cA' = cA := va_RA_inj hno (hK'.2 _ _ h1).2 (C.2.2.2.2.2.2.2.1.2 t0 _ ht).2
  subst e
  exact kk q H1 (by rw [← hs q]; exact ⟨hP, hD, hS⟩)
theorem kNewO {Cn : String} {T : u_T} {N ci index : Nat} (fs : List Value) (ws' : Nat → va_W) (C : kC p s m args meth c cc maxL ret own D tys ad A) (hin : ∀ w ∈ u_ws Cn T N, w ∈ W0) (ty : Nat → FieldType) (hty : ∀ k, k < N → parseFieldDescriptor (T k).2.2.1 = some (ty k)) (hcl : Cond.classLink own index Cn ∈ W0) (hinst : Cond.instantiable Cn N ∈ W0) (hini : Cond.initialized Cn ∈ W0) (hw : kW D A s.heap ws H locs) (hc : vwCl[ci]? = some (Cn, T, N)) (hfs : ∀ j, j < N → defaultValue (ty j) = vp_V fs j) (hcells : cells + 1 ≤ R.cells) (hslots : slots + N ≤ R.slots) (hs : ∀ q, ws ++ [(q, .inr (ci, fs))] = ws' q) (hdg : decode cc pc = .ok (.new index, 3))
    (kk : ∀ (q : Nat) (H1 : Heap), kW D A s.heap (ws' q) H1 locs → W p l e R s m args below meth c H1 locs (cells + 1) (slots + N) Q (F0 m (pc + 3) ls (.ref q :: rest))) : W p l e R s m args below meth c H locs cells slots Q (F0 m pc ls rest) :=
  va_new C.1 C.2.1 C.2.2.2.2.2.2.1 hin ty hty C.2.2.2.2.2.1 (C.2.2.2.2.2.2.1 _ hcl) (C.2.2.2.2.2.2.1 _ hinst) (C.2.2.2.2.2.2.1 _ hini) C.2.2.2.2.2.2.2.1 hw.1 hw.2.1 hw.2.2 C.2.2.2.2.2.2.2.2.2 hc hfs hcells hslots hdg (fun q H1 hP hD hS => kk q H1 (by rw [← hs q]; exact ⟨hP, hD, hS⟩))
theorem kPutF {ref Cn : String} {T : u_T} {N ci index : Nat} (C : kC p s m args meth c cc maxL ret own D tys ad A) (hi : meth.name = "<init>") (hin : ∀ w ∈ u_ws Cn T N, w ∈ W0) (ty0 : Nat → FieldType) (hty : ∀ k, k < N → parseFieldDescriptor (T k).2.2.1 = some (ty0 k)) (hnm : ∀ a, a < N → ∀ b, b < N → a ≠ b → (T a).2.1 ≠ (T b).2.1) (hw : kW D A H0 ws H locs) (q0 : Nat) {fs : List Value} (he : ws[q0]? = some (a, .inr (ci, fs))) (hc : vwCl[ci]? = some (Cn, T, N)) (k : Nat) (hk : k < N) (hlink : (Cond.fieldLink own index ref (T k).2.1 (T k).2.2.1).before args s = true) (hsame : (T k).1 = ref) (hfin : (T k).2.2.2 = true) (hdecl : (T k).1 = own) {v : Value} (hn : narrow (ty0 k) v = v) (hfit : fits (ty0 k) v = true) (hl : k < fs.length) (hs : ws.set q0 (a, .inr (ci, fs.set k v)) = ws')
    (hdg : decode cc pc = .ok (.putfield index, 3)) (kk : ∀ (H1 : Heap) (locs1 : List Loc), kW D A H0 ws' H1 locs1 → W p l e R s m args below meth c H1 locs1 cells slots Q (F0 m (pc + 3) ls rest)) : W p l e R s m args below meth c H locs cells slots Q (F0 m pc ls (v :: .ref a :: rest)) := by
  subst hsame; subst hs
  exact va_putF C.1 C.2.1 C.2.2.2.2.2.2.1 hin ty0 hty hnm C.2.2.2.2.2.1 C.2.2.2.2.2.2.2.1 hw.1 hw.2.1 hw.2.2 q0 he hc k hk hlink (fun _ h => h) hfin hi hdecl (hty k hk) hn hfit hl hdg (fun H1 locs1 a1 a2 a3 => kk H1 locs1 ⟨a1, a2, a3⟩)
variable {y : MethodName} {wy : List Cond} {rm : Room} {bytes : ByteArray} {maxLy n index mc ms : Nat} {b : Nat} {As : List Value}
theorem kGoI {S : Type} {post : S → va_W} {a : Array Value} (ws2 : S → va_W) (hr : va_Run p l e R s m args below meth c H locs cells slots mc ms (F0 m pc ls st0) rest (kQI D (va_A wc H.size) post a) (va_A wc H.size)) (hw : kW D A s.heap ws H locs) (hA : ∀ q, s.heap.size ≤ q → A q) (is rs : List Nat) (hC : is.map (fun i => ws[i]?) = wc.map some) (hR : rs.map (fun i => ws[i]?) = wr.map some) (hnr : va_nd rs = true) (hdis : ∀ i ∈ rs, i ∉ is) (h2 : ∀ u, wr ++ post u = ws2 u)
    (kk : ∀ (u : S) (H1 : Heap) (locs1 : List Loc), kW D A s.heap (ws2 u) H1 locs1 → W p l e R s m args below meth c H1 locs1 (cells + mc) (slots + ms) Q (F0 m (pc + 3) ls rest)) : W p l e R s m args below meth c H locs cells slots Q (F0 m pc ls st0) := by
  have hF := va_free hw.2.1 hw.2.2 hA is hC
  intro T hT X
  obtain ⟨v, st₀, t, T', L, h0, X', hL, e1, e2, ⟨⟨u, hv, hP1, hD1⟩, hz, hk⟩, st⟩ := hr T hT X
  cases hv
  rw [h0] at hz hk
  rw [← e1] at hP1 hz hk
  obtain ⟨b1, b2⟩ := va_join hw.1 hw.2.1 is rs hC hR hnr hdis hk hF hP1 hD1
  rw [h2 u] at b1 b2
  obtain ⟨t2, a1, c1⟩ := kk u T'.heap (locs ++ L) ⟨b1, b2, Nat.le_trans hw.2.2.1 hz, fun q h1 h2 => by rw [hk q (Nat.lt_of_lt_of_le h1 hw.2.2.1) (fun z => h2 (hF q z))]; exact hw.2.2.2.1 q h1 h2, fun q hq => by
    rcases List.mem_append.mp hq with h | h
    · exact hw.2.2.2.2 q h
    · exact hF _ (hL q h)⟩ T' rfl X'
  exact ⟨t2, st t2 a1, c1⟩
theorem kCallI {S : Type} {post : S → va_W} (ws2 : S → va_W) (wr : va_W) (C : kC p s m args meth c cc maxL ret own D tys ad A) (hw : kW D A s.heap ws H locs) (hM : kI l y wy rm D tys ad (.ref b :: As) wc post mc ms) (cw : CallB R s args own index y bytes maxLy none wy rm mc ms n ∧ y.name = "<init>" ∧ (Cond.instanceMethod y).before args s = true) (is rs : List Nat) (hn : va_nd is = true) (hnr : va_nd rs = true) (hdis : ∀ i ∈ rs, i ∉ is) (hC : is.map (fun i => ws[i]?) = wc.map some) (hR : rs.map (fun i => ws[i]?) = wr.map some) (h2 : ∀ u, wr ++ post u = ws2 u)
    (hl : ls.size = maxL) (hlen : As.length = n) (hst0 : As.reverse ++ .ref b :: rest = st0) (hroom : (rest.map fun v => v.category).sum ≤ 8) (hf : cells + mc ≤ R.cells ∧ slots + ms ≤ R.slots) (hdg : decode cc pc = .ok (.invokespecial index, 3))
    (kk : ∀ (u : S) (H1 : Heap) (locs1 : List Loc), kW D A s.heap (ws2 u) H1 locs1 → W p l e R s m args below meth c H1 locs1 (cells + mc) (slots + ms) Q (F0 m (pc + 3) ls rest)) : W p l e R s m args below meth c H locs cells slots Q (F0 m pc ls st0) := by
  subst hst0
  have hp := kPre (av := .ref b :: As) C hw is hn hC
  exact kGoI ws2 (va_runI (g := F0 m pc ls (As.reverse ++ .ref b :: rest)) (As := As) (rest := rest) ⟨C.1, C.2.1, C.2.2.1, C.2.2.2.2.2.1, C.2.2.2.2.2.2.1⟩ (hM H.size) cw hp rfl hlen hl rfl (lv_room hroom) hdg hf) hw C.2.2.2.2.2.2.2.2.2 is rs hC hR hnr hdis h2 kk
theorem kCallIN {S : Type} {post : S → va_W} (ws2 : S → va_W) (wr : va_W) (C : kC p s m args meth c cc maxL ret own D tys ad A) (hw : kW D A s.heap ws H locs) (hM : kI l y wy rm D tys ad (.ref b :: As) wc post mc ms) (cw : va_CN R s args own index y "DikeWatch" bytes maxLy none wy rm mc ms n ∧ y.name = "<init>" ∧ (Cond.instanceMethod y).before args s = true) (is rs : List Nat) (hn : va_nd is = true) (hnr : va_nd rs = true) (hdis : ∀ i ∈ rs, i ∉ is) (hC : is.map (fun i => ws[i]?) = wc.map some) (hR : rs.map (fun i => ws[i]?) = wr.map some) (h2 : ∀ u, wr ++ post u = ws2 u)
    (hl : ls.size = maxL) (hlen : As.length = n) (hst0 : As.reverse ++ .ref b :: rest = st0) (hroom : (rest.map fun v => v.category).sum ≤ 8) (hf : cells + mc ≤ R.cells ∧ slots + ms ≤ R.slots) (hdg : decode cc pc = .ok (.invokespecial index, 3))
    (kk : ∀ (u : S) (H1 : Heap) (locs1 : List Loc), kW D A s.heap (ws2 u) H1 locs1 → W p l e R s m args below meth c H1 locs1 (cells + mc) (slots + ms) Q (F0 m (pc + 3) ls rest)) : W p l e R s m args below meth c H locs cells slots Q (F0 m pc ls st0) := by
  subst hst0
  have hp := kPre (av := .ref b :: As) C hw is hn hC
  exact kGoI ws2 (va_runIN (g := F0 m pc ls (As.reverse ++ .ref b :: rest)) (As := As) (rest := rest) ⟨C.1, C.2.1, C.2.2.1, C.2.2.2.2.2.1, C.2.2.2.2.2.2.1⟩ (hM H.size) cw hp rfl hlen hl rfl (lv_room hroom) hdg hf) hw C.2.2.2.2.2.2.2.2.2 is rs hC hR hnr hdis h2 kk
end KCT
