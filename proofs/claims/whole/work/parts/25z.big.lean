/-! calls with many cells: what comes back is named by its places -/
theorem kBackB {D : va_G} {A : Nat → Prop} {ws wc wc' ws2 wr : va_W} {H H1 : Heap} {is rs : List Nat} {n : Nat} (hP : va_P D vwCl ws H) (hD : va_D A ws) (hC : is.map (fun i => ws[i]?) = wc.map some) (hC2 : is.map (fun i => ws2[i]?) = wc'.map some) (hR2 : rs.map (fun i => ws2[i]?) = wr.map some) (hR1 : rs.map (fun i => ws[i]?) = wr.map some) (hl : ws2.length = n) (hcov : (List.range n).all (fun k => is.contains k || rs.contains k) = true) (hsame : wc'.map Prod.fst = wc.map Prod.fst)
    (hk : ∀ q : Nat, q < H.size → ¬ va_A wc H.size q → H1[q]? = H[q]?) (hP1 : va_P D vwCl wc' H1) (hrs : rs.all (fun k => !is.contains k) = true) : va_P D vwCl ws2 H1 ∧ va_D A ws2 := by
  have hR : rs.map (fun i => ws2[i]?) = rs.map (fun i => ws[i]?) := hR2.trans hR1.symm
  have cov : ∀ (k : Nat) (q : Nat × va_E), ws2[k]? = some q → (∃ j : Nat, is[j]? = some k ∧ wc'[j]? = some q) ∨ (k ∈ rs ∧ ws[k]? = some q) := by
    intro k q hq
    have hlt : k < n := by rw [← hl]; exact (List.getElem?_eq_some_iff.mp hq).1
    have h1 := List.all_eq_true.mp hcov k (List.mem_range.mpr hlt)
    simp only [Bool.or_eq_true, List.contains_iff_mem] at h1
    rcases h1 with h1 | h1
    · obtain ⟨j, hj⟩ := List.getElem?_of_mem h1
      have h2 : (is.map (fun i => ws2[i]?))[j]? = some (ws2[k]?) := by rw [List.getElem?_map, hj]; rfl
      rw [hC2, List.getElem?_map, hq] at h2
      cases hw : wc'[j]? with
      | none => rw [hw] at h2; cases h2
      | some z => rw [hw] at h2; refine Or.inl ⟨j, hj, ?_⟩; rw [hw]; exact Option.some.inj h2
    · obtain ⟨j, hj⟩ := List.getElem?_of_mem h1
      have h2 : (rs.map (fun i => ws2[i]?))[j]? = some (ws2[k]?) := by rw [List.getElem?_map, hj]; rfl
      rw [hR, List.getElem?_map, hj] at h2
      have h3 : ws[k]? = ws2[k]? := Option.some.inj h2
      exact Or.inr ⟨h1, h3.trans hq⟩
  have adr : ∀ (k : Nat) (q : Nat × va_E), ws2[k]? = some q → ∃ q0, ws[k]? = some q0 ∧ q0.1 = q.1 := by
    intro k q hq
    rcases cov k q hq with ⟨j, g1, g2⟩ | ⟨-, g2⟩
    · have g3 : (wc'.map Prod.fst)[j]? = some q.1 := by rw [List.getElem?_map, g2]; rfl
      rw [hsame, List.getElem?_map] at g3
      cases hj : wc[j]? with
      | none => rw [hj] at g3; cases g3
      | some z =>
        rw [hj] at g3
        obtain ⟨i, h5, h6⟩ := kPick hC j z hj
        have : i = k := Option.some.inj (h5.symm.trans g1)
        subst this
        exact ⟨z, h6, Option.some.inj g3⟩
    · exact ⟨q, g2, rfl⟩
  refine ⟨fun k q hq => ?_, fun i j x z hx hz hxz => ?_, fun k q hq => ?_⟩
  · rcases cov k q hq with ⟨j, g1, g2⟩ | ⟨g1, g2⟩
    · exact hP1 j q g2
    · have hl := (hP k q g2).lt
      refine (hP k q g2).kept (hk q.1 hl (fun h => ?_))
      rcases h with ⟨j, e, h⟩ | h
      · obtain ⟨i, h5, h6⟩ := kPick hC j (q.1, e) h
        have hij := hD.1 k i q (q.1, e) g2 h6 rfl
        subst hij
        have h7 := List.all_eq_true.mp hrs k g1
        simp only [Bool.not_eq_true', List.contains_eq_mem, decide_eq_false_iff_not] at h7
        exact h7 (List.mem_of_getElem? h5)
      · omega
  · obtain ⟨x0, a1, a2⟩ := adr i x hx
    obtain ⟨z0, b1, b2⟩ := adr j z hz
    exact hD.1 i j x0 z0 a1 b1 (a2.trans (hxz.trans b2.symm))
  · obtain ⟨q0, a1, a2⟩ := adr k q hq
    rw [← a2]
    exact hD.2 k q0 a1
section KBG
variable {p : Program} {l : Launch} {e : Env} {R : Room} {s : State} {m : MethodId} {args : Array Value} {below : List Frame} {meth : Method} {c : Code} {H : Heap} {locs : List Loc} {cells slots : Nat} {Q : State → Prop}
variable {cc : ByteArray} {pc : Nat} {ls : Array Slot} {rest st0 st2 : List Value} {D : va_G} {A : Nat → Prop} {tys : List (ClassId × FieldType)} {ad : (Nat → Nat) × (Nat → Nat)} {ws ws2 wc wc' wr : va_W} {maxL : Nat} {ret : Option FieldType} {own : String} {rv : Option Value}
variable {y : MethodName} {wy : List Cond} {rm : Room} {bytes : ByteArray} {maxLy n index : Nat} {rety : Option FieldType} {Cn : String} {b : Nat} {As : List Value}
theorem kCallVB (C : kC p s m args meth c cc maxL ret own D tys ad A) (hw : kW D A s.heap ws H locs) (hM : kM l y wy rm D tys ad (.ref b :: As) wc rv wc') (cw : CallW R s args own Cn index y bytes maxLy rety wy rm 0 0 n) (is rs : List Nat) {N0 : Nat} (hn : va_nd is = true) (hcov : (List.range N0).all (fun k => is.contains k || rs.contains k) = true) (hrs : rs.all (fun k => !is.contains k) = true) (hC : is.map (fun i => ws[i]?) = wc.map some) (hsame : wc'.map Prod.fst = wc.map Prod.fst) (hC2 : is.map (fun i => ws2[i]?) = wc'.map some) (hR2 : rs.map (fun i => ws2[i]?) = wr.map some) (hR1 : rs.map (fun i => ws[i]?) = wr.map some) (hl2 : ws2.length = N0)
    (q0 ci : Nat) {fs : List Value} {T : u_T} {N : Nat} (he : ws[q0]? = some (b, .inr (ci, fs))) (hcl : vwCl[ci]? = some (Cn, T, N)) (hl : ls.size = maxL) (hlen : As.length = n) (hst0 : As.reverse ++ .ref b :: rest = st0) (hst : rv.toList ++ rest = st2) (hroom : (rest.map fun v => v.category).sum ≤ 8) (hf : cells ≤ R.cells ∧ slots ≤ R.slots) (hdg : decode cc pc = .ok (.invokevirtual index, 3))
    (kk : ∀ (H1 : Heap) (locs1 : List Loc), kW D A s.heap ws2 H1 locs1 → W p l e R s m args below meth c H1 locs1 cells slots Q (F0 m (pc + 3) ls st2)) : W p l e R s m args below meth c H locs cells slots Q (F0 m pc ls st0) := by
  subst hst0
  have hp := kPre (av := .ref b :: As) C hw is hn hC
  exact kGo (va_runV (g := F0 m pc ls (As.reverse ++ .ref b :: rest)) (As := As) (rest := rest) ⟨C.1, C.2.1, C.2.2.1, C.2.2.2.2.2.1, C.2.2.2.2.2.2.1⟩ (hM H.size) cw ⟨hp.1, va_recv C.2.2.2.2.2.2.2.1 hw.1 hcl he, hp.2⟩ rfl hlen hl rfl (lv_room hroom) hdg hf) hw (va_free hw.2.1 hw.2.2 C.2.2.2.2.2.2.2.2.2 is hC) hst (fun H1 g1 g2 => kBackB hw.1 hw.2.1 hC hC2 hR2 hR1 hl2 hcov hsame g1 g2 hrs) kk
end KBG
