/-! ===== fault and dike ===== -/
theorem zl10_inv {A1 A2 A3 A4 A5 A6 A7 A8 A9 A10 β : Type} {body : A1 → A2 → A3 → A4 → A5 → A6 → A7 → A8 → A9 → A10 → (A1 → A2 → A3 → A4 → A5 → A6 → A7 → A8 → A9 → A10 → Option β) → Option β} (I : Nat → A1 → A2 → A3 → A4 → A5 → A6 → A7 → A8 → A9 → A10 → Prop) (N : Nat) {P : β → Prop} (hs : ∀ i a1 a2 a3 a4 a5 a6 a7 a8 a9 a10, i < N → I i a1 a2 a3 a4 a5 a6 a7 a8 a9 a10 → ∃ b1 b2 b3 b4 b5 b6 b7 b8 b9 b10, I (i + 1) b1 b2 b3 b4 b5 b6 b7 b8 b9 b10 ∧ ∀ k, body a1 a2 a3 a4 a5 a6 a7 a8 a9 a10 k = k b1 b2 b3 b4 b5 b6 b7 b8 b9 b10) (hx : ∀ a1 a2 a3 a4 a5 a6 a7 a8 a9 a10, I N a1 a2 a3 a4 a5 a6 a7 a8 a9 a10 → ∀ k, ∃ r, body a1 a2 a3 a4 a5 a6 a7 a8 a9 a10 k = some r ∧ P r) : ∀ (d j f : Nat) (a1 : A1) (a2 : A2) (a3 : A3) (a4 : A4) (a5 : A5) (a6 : A6) (a7 : A7) (a8 : A8) (a9 : A9) (a10 : A10), d = N - j → j ≤ N → d < f → I j a1 a2 a3 a4 a5 a6 a7 a8 a9 a10 → ∃ r, zl10 body f a1 a2 a3 a4 a5 a6 a7 a8 a9 a10 = some r ∧ P r
  | d, j, 0, _, _, _, _, _, _, _, _, _, _, _, _, h, _ => absurd h (by omega)
  | d, j, f + 1, a1, a2, a3, a4, a5, a6, a7, a8, a9, a10, hd, hj, hf, hI => by
    show ∃ r, body a1 a2 a3 a4 a5 a6 a7 a8 a9 a10 (zl10 body f) = some r ∧ P r
    by_cases q : j = N
    · subst q; exact hx a1 a2 a3 a4 a5 a6 a7 a8 a9 a10 hI _
    · obtain ⟨b1, b2, b3, b4, b5, b6, b7, b8, b9, b10, h1, h2⟩ := hs j a1 a2 a3 a4 a5 a6 a7 a8 a9 a10 (by omega) hI
      rw [h2]
      exact zl10_inv I N hs hx (d - 1) (j + 1) f b1 b2 b3 b4 b5 b6 b7 b8 b9 b10 (by omega) (by omega) (by omega) h1
theorem v_copyT {T : TA} {ty ts tc oy os oc : Int32} {tt tsy tsz tgr tlv tk tcy tp te ot osy osz ogr olv ok ocy op oe : Nat → Int32} (hT : okT T) (h : rT oy os oc ot osy osz ogr olv ok ocy op oe T) :
    ∃ tt' tsy' tsz' tgr' tlv' tk' tcy' tp' te', F_X7_copyFrom ty ts tc tt tsy tsz tgr tlv tk tcy tp te oy os oc ot osy osz ogr olv ok ocy op oe = some (oy, os, oc, tt', tsy', tsz', tgr', tlv', tk', tcy', tp', te') ∧ rT oy os oc tt' tsy' tsz' tgr' tlv' tk' tcy' tp' te' T := by
  have a3 : tS T ≤ 6 := hT.2.2.1
  have a4 : tC T ≤ 5 := hT.2.2.2.1
  obtain ⟨d1, d2, d3, d4, d5, d6⟩ := h
  refine ⟨_, _, _, _, _, _, _, _, _, rfl, d1, d2, d3, fun h hh => ?_, fun s hs => ⟨?_, ?_, ?_, ?_⟩, fun c hc => ⟨?_, ?_, ?_, ?_⟩⟩
  · rw [cpyE (by omega)]; exact d4 h hh
  · rw [cpyE (by omega)]; exact (d5 s hs).1
  · rw [cpyE (by omega)]; exact (d5 s hs).2.1
  · rw [cpyE (by omega)]; exact (d5 s hs).2.2.1
  · rw [cpyE (by omega)]; exact (d5 s hs).2.2.2
  · rw [cpyE (by omega)]; exact (d6 c hc).1
  · rw [cpyE (by omega)]; exact (d6 c hc).2.1
  · rw [cpyE (by omega)]; exact (d6 c hc).2.2.1
  · rw [cpyE (by omega)]; exact (d6 c hc).2.2.2
section
variable {len mlen : Int32} {sg mt : Nat → Int32} {L : Nat} {ch : Nat → Nat}
theorem b_read (hX : txR len sg mlen mt L ch) {T : TA} (hT : okT T) {gy gs gc r1 r2 r3 r4 my ms mc rm at0 pl en ry rs rc : Int32} {gt gsy gsz ggr glv gk gcy gp ge rdA : Nat → Int32} (hD : rT gy gs gc gt gsy gsz ggr glv gk gcy gp ge T) (w1 : my = nI (tY T)) (w2 : ms = nI (tS T)) (w3 : mc = nI (tC T)) :
    ∃ ans gy' gs' gc' gt' gsy' gsz' ggr' glv' gk' gcy' gp' ge' s' b' e' li rm' at' pl' en' ry' rs' rc' read', F_X4_readToFault len sg gy gs gc gt gsy gsz ggr glv gk gcy gp ge r1 r2 r3 r4 = some (ans, gy', gs', gc', gt', gsy', gsz', ggr', glv', gk', gcy', gp', ge', s', b', e', li) ∧ F_X9_fault mlen rm my ms mc at0 pl en ry rs rc mt rdA = some (ans, rm', at', pl', en', ry', rs', rc', read') ∧ (ans = -1 → ∃ T' m, okT T' ∧ rT gy' gs' gc' gt' gsy' gsz' ggr' glv' gk' gcy' gp' ge' T' ∧ m ≤ 12 ∧ li = nI m ∧ rm' = nI m ∧ lnC read' T m T') := by
  obtain ⟨ans, gy', gs', gc', gt', gsy', gsz', ggr', glv', gk', gcy', gp', ge', s', b', e', li, rm', a2, pl', en', ry', rs', rc', read', q1, q2, q3⟩ := b_lines hX (T0 := T) 12 0 (T := T) (a := 0) (fc := FU) (fm := FU) (r1 := r1) (r2 := r2) (r4 := r4) (rdA := rdA) (by omega) (by omega) (by unfold FU; omega) (by unfold FU; omega) hT (Nat.zero_le _) hD rfl
  refine ⟨ans, gy', gs', gc', gt', gsy', gsz', ggr', glv', gk', gcy', gp', ge', s', b', e', li, rm', a2, pl', en', ry', rs', rc', read', ?_, ?_, q3⟩
  · unfold F_X4_readToFault
    exact q1
  · unfold F_X9_fault
    rw [show F_X9_token mlen (0 : Int32) pl en mt = _ from m_token hX (a := 0) (Nat.zero_le _), zc3_e, w1, w2, w3]
    exact q2
end
theorem b_fault {T : TA} (hT : okT T) {len mlen : Int32} {sg mt : Nat → Int32} {L : Nat} (hX : tR len sg mlen mt L) {ty ts tc gy gs gc r1 r2 r3 r4 my ms mc rm at0 pl en ry rs rc : Int32} {tt tsy tsz tgr tlv tk tcy tp te gt gsy gsz ggr glv gk gcy gp ge rdA : Nat → Int32} (hD : rT ty ts tc tt tsy tsz tgr tlv tk tcy tp te T) (w1 : my = nI (tY T)) (w2 : ms = nI (tS T)) (w3 : mc = nI (tC T)) :
    ∃ ans b c, F_X8_fault len sg ty ts tc tt tsy tsz tgr tlv tk tcy tp te gy gs gc gt gsy gsz ggr glv gk gcy gp ge r1 r2 r3 r4 = some (ans, b) ∧ F_X9_fault mlen rm my ms mc at0 pl en ry rs rc mt rdA = some (ans, c) := by
  obtain ⟨x4, x5, x6, x7, x8, x9, x10, x11, x12, c1, c2⟩ := v_copyT (ty := gy) (ts := gs) (tc := gc) (tt := gt) (tsy := gsy) (tsz := gsz) (tgr := ggr) (tlv := glv) (tk := gk) (tcy := gcy) (tp := gp) (te := ge) hT hD
  obtain ⟨ans, gy', gs', gc', gt', gsy', gsz', ggr', glv', gk', gcy', gp', ge', s', b', e', li, rm', a2, pl', en', ry', rs', rc', read', q1, q2, q3⟩ := b_read (txR_of hX) hT (r1 := r1) (r2 := r2) (r3 := r3) (r4 := r4) (rm := rm) (at0 := at0) (pl := pl) (en := en) (ry := ry) (rs := rs) (rc := rc) (rdA := rdA) c2 w1 w2 w3
  unfold F_X8_fault
  rw [c1, zc12_e, q1, zc17_e, q2]
  exact ⟨_, _, _, rfl, rfl⟩
