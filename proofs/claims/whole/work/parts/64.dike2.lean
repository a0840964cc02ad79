/-! ===== dike, alike; what holds between calls ===== -/
theorem bitsN_no (n : Nat) : bitsN n (fun _ => false) = 0 := by
  induction n with
  | zero => rfl
  | succ n ih => simp only [bitsN, ih]; rfl
def stN (T : TA) : NA := (0, fun _ => false, fun _ => false, tSz T, tCy T, fun _ => 0)
def INV (kb len : Int32) (sg : Nat → Int32) (ty ts tc : Int32) (tt tsy tsz tgr tlv tk tcy tp te : Nat → Int32) (nh nf nl : Int32) (ns ny no : Nat → Int32) (kh kf kl : Int32) (ks ky ko : Nat → Int32) (jh jf jl : Int32) (js jy jo : Nat → Int32) (cy cc cp : Int32) (mlen my ms mc mm : Int32) (row isK mt td sp kd pc er sg2 : Nat → Int32) : Prop :=
  ∃ (T : TA) (N N0 N1 : NA) (K L Kc : Nat), okT T ∧ okN T N 9999 ∧ rT ty ts tc tt tsy tsz tgr tlv tk tcy tp te T ∧ rN nh nf nl ns ny no T N ∧ mT my ms mc row td sp kd pc er T ∧ mN 0 row T N ∧ zR row ∧ kR kb kh kf kl ks ky ko jh jf jl js jy jo isK row T K N0 N1 ∧ cluR cy cc cp mm sg2 T Kc ∧ tR len sg mlen mt L
theorem v_beginN {T : TA} (hT : okT T) {nh nf nl : Int32} {tsz tcy ns ny no : Nat → Int32} (h1 : ∀ s, s < tS T → tsz s = nI (tSz T s)) (h2 : ∀ c, c < tC T → tcy c = nI (tCy T c)) : ∃ a b c, F_X3_begin tsz tcy nh nf nl ns ny no = some (0, 0, 0, a, b, c) ∧ rN 0 0 0 a b c T (stN T) := by
  have a3 : tS T ≤ 6 := hT.2.2.1
  have a4 : tC T ≤ 5 := hT.2.2.2.1
  obtain ⟨g, g1, g2⟩ := v_fillI (arr := no) (n := 5) (by omega)
  unfold F_X3_begin
  rw [bdE, bdE, g1, zc1_e]
  refine ⟨_, _, _, rfl, rfl, ?_, ?_, fun s hs => ?_, fun c hc => ⟨?_, ?_⟩⟩
  · show (0 : Int32) = nI (bitsN (tS T) (fun _ => false)); rw [bitsN_no]; rfl
  · show (0 : Int32) = nI (bitsN (tC T) (fun _ => false)); rw [bitsN_no]; rfl
  · rw [cpyE (by omega)]; exact h1 s hs
  · rw [cpyE (by omega)]; exact h2 c hc
  · exact g2 c (by omega)
theorem stN_ok {T : TA} (hT : okT T) : okN T (stN T) 9999 := by
  obtain ⟨o1, o2, o3, o4, o5, o6, o7⟩ := hT
  refine ⟨by show 0 ≤ 9999; omega, fun s hs => ?_, fun c hc => (o7 c hc).2.1⟩
  show 1 ≤ tSz T s ∧ tSz T s ≤ 100
  have := o6 s hs
  omega
theorem stN_mN {T : TA} (hT : okT T) {my ms mc : Int32} {row r td sp kd pc er : Nat → Int32} (h : mT my ms mc row td sp kd pc er T) (hz : zR row) (hr : ∀ k, k < 19 → r (0 + k) = row (76 + k)) : mN 0 r T (stN T) := by
  have a3 : tS T ≤ 6 := hT.2.2.1
  have a4 : tC T ≤ 5 := hT.2.2.2.1
  obtain ⟨w1, w2, w3, w4, w5, w6⟩ := h
  refine ⟨?_, ?_, ?_, fun s hs => ?_, fun c hc => ⟨?_, ?_⟩⟩
  · rw [hr 18 (by omega)]; exact hz.2 94 (by omega) (by omega)
  · rw [hr 6 (by omega)]
    show row 82 = nI (bitsN (tS T) (fun _ => false))
    rw [bitsN_no]; exact hz.1
  · rw [hr 12 (by omega)]
    show row 88 = nI (bitsN (tC T) (fun _ => false))
    rw [bitsN_no]; exact hz.2 88 (by omega) (by omega)
  · rw [hr s (by omega)]; exact (w5 s hs).2.1
  · rw [show 0 + 7 + c = 0 + (7 + c) by omega, hr (7 + c) (by omega), show 76 + (7 + c) = 83 + c by omega]; exact (w6 c hc).2.1
  · rw [show 0 + 13 + c = 0 + (13 + c) by omega, hr (13 + c) (by omega)]
    exact hz.2 (76 + (13 + c)) (by omega) (by omega)
theorem m_tells12 {my ms mc g2 : Int32} {row td sp kd pc er rdA : Nat → Int32} {T0 T' : TA} {m : Nat} (hm : m ≤ 12) (hg : g2 = nI m) (hT0 : okT T0) (hT' : okT T') (h : mT my ms mc row td sp kd pc er T0) (hz : zR row) (hl : lnC rdA T0 m T') {β : Type} (K : Int32 → Int32 → Int32 → (Nat → Int32) → (Nat → Int32) → (Nat → Int32) → (Nat → Int32) → (Nat → Int32) → (Nat → Int32) → Option β) {P : β → Prop}
    (hK : ∀ my' ms' mc' row' td' sp' kd' pc' er', mT my' ms' mc' row' td' sp' kd' pc' er' T' → zR row' → ∃ r, K my' ms' mc' row' td' sp' kd' pc' er' = some r ∧ P r) :
    ∃ r, zl10 (fun x12 h13 h14 h15 h16 h17 h18 h19 h20 h21 ag22 => if g2 ≤ x12 then K h13 h14 h15 h16 h17 h18 h19 h20 h21 else (bd ((5 : Int32) * x12) (fun v30 => zc9 (F_X9_tell h13 h14 h15 h16 rdA h17 h18 h19 h20 h21 v30) (fun g31 g32 g33 g34 g35 g36 g37 g38 g39 => bd (x12 + (1 : Int32)) (fun v41 => ag22 v41 g31 g32 g33 g34 g35 g36 g37 g38 g39))))) FU (0 : Int32) my ms mc row td sp kd pc er = some r ∧ P r := by
  obtain ⟨Ts, e1, e2, e3⟩ := lnC_seq m T' hl
  refine zl10_inv (fun k x a1 a2 a3 a4 a5 a6 a7 a8 a9 => x = nI k ∧ mT a1 a2 a3 a4 a5 a6 a7 a8 a9 (Ts k) ∧ zR a4) m (fun k x a1 a2 a3 a4 a5 a6 a7 a8 a9 hk hI => ?_) (fun x a1 a2 a3 a4 a5 a6 a7 a8 a9 hI q => ?_) m 0 FU _ _ _ _ _ _ _ _ _ _ (Nat.sub_zero _).symm (by omega) (by unfold FU; omega) ⟨rfl, by rw [e1]; exact h, hz⟩
  · obtain ⟨rfl, i2, i3⟩ := hI
    obtain ⟨b1, b2, b3, b4, b5, b6, b7, b8, b9, t1, t2, t3, -⟩ := m_tell (e3 k hk).1 (show k < 12 by omega) i2 i3 (e3 k hk).2
    refine ⟨nI (k + 1), b1, b2, b3, b4, b5, b6, b7, b8, b9, ⟨rfl, t2, t3⟩, fun q => ?_⟩
    rw [if_neg (by rw [hg]; exact nI_ge hk (by omega)), bdE, show (5 : Int32) = nI 5 from rfl, pk_mul, t1, zc9_e, bdE, nI_1]
  · obtain ⟨rfl, i2, i3⟩ := hI
    rw [if_pos (by rw [hg]; exact nI_le (Nat.le_refl _) (by omega))]
    rw [e2] at i2
    exact hK _ _ _ _ _ _ _ _ _ i2 i3
theorem i_dike {kb len : Int32} {sg : Nat → Int32} {ty ts tc : Int32} {tt tsy tsz tgr tlv tk tcy tp te : Nat → Int32} {gy gs gc : Int32} {gt gsy gsz ggr glv gk gcy gp ge : Nat → Int32} {r1 r2 r3 r4 : Int32} {nh nf nl : Int32} {ns ny no : Nat → Int32} {kh kf kl : Int32} {ks ky ko : Nat → Int32} {jh jf jl : Int32} {js jy jo : Nat → Int32} {cy cc cp : Int32} {mlen my ms mc mm rm at0 pl en ry rs rc : Int32} {row isK mt td sp kd pc er sg2 rdA : Nat → Int32}
    (h : INV kb len sg ty ts tc tt tsy tsz tgr tlv tk tcy tp te nh nf nl ns ny no kh kf kl ks ky ko jh jf jl js jy jo cy cc cp mlen my ms mc mm row isK mt td sp kd pc er sg2) :
    ∃ r kb' len' ty' ts' tc' tt' tsy' tsz' tgr' tlv' tk' tcy' tp' te' gy' gs' gc' gt' gsy' gsz' ggr' glv' gk' gcy' gp' ge' r1' r2' r3' r4' nh' nf' nl' ns' ny' no' cy' cc' cp' mlen' rm' my' ms' mc' at' pl' en' ry' rs' rc' mm' row' isK' rd' td' sp' kd' pc' er', F_X8_dike kb len sg ty ts tc tt tsy tsz tgr tlv tk tcy tp te gy gs gc gt gsy gsz ggr glv gk gcy gp ge r1 r2 r3 r4 nh nf nl ns ny no cy cc cp = some (r, kb', len', ty', ts', tc', tt', tsy', tsz', tgr', tlv', tk', tcy', tp', te', gy', gs', gc', gt', gsy', gsz', ggr', glv', gk', gcy', gp', ge', r1', r2', r3', r4', nh', nf', nl', ns', ny', no', cy', cc', cp') ∧ F_X9_dike mlen rm my ms mc at0 pl en ry rs rc mm row isK mt rdA td sp kd pc er = some (r, mlen', rm', my', ms', mc', at', pl', en', ry', rs', rc', mm', row', isK', rd', td', sp', kd', pc', er') ∧ INV kb' len' sg ty' ts' tc' tt' tsy' tsz' tgr' tlv' tk' tcy' tp' te' nh' nf' nl' ns' ny' no' kh kf kl ks ky ko jh jf jl js jy jo cy' cc' cp' mlen' my' ms' mc' mm' row' isK' mt td' sp' kd' pc' er' sg2 := by
  have h0 := h
  obtain ⟨T, N, N0, N1, K, L, Kc, hT, hN, hD, hR, hM, hMN, hZ, hKR, hCl, hTx⟩ := h
  obtain ⟨x4, x5, x6, x7, x8, x9, x10, x11, x12, c1, c2⟩ := v_copyT (ty := gy) (ts := gs) (tc := gc) (tt := gt) (tsy := gsy) (tsz := gsz) (tgr := ggr) (tlv := glv) (tk := gk) (tcy := gcy) (tp := gp) (te := ge) hT hD
  obtain ⟨ans, gy', gs', gc', gt', gsy', gsz', ggr', glv', gk', gcy', gp', ge', s', b', e', li, rm', a2, pl', en', ry', rs', rc', read', q1, q2, q3⟩ := b_read (txR_of hTx) hT (r1 := r1) (r2 := r2) (r3 := r3) (r4 := r4) (rm := rm) (at0 := at0) (pl := pl) (en := en) (ry := ry) (rs := rs) (rc := rc) (rdA := rdA) c2 hM.1 hM.2.1 hM.2.2.1
  unfold F_X8_dike F_X9_dike
  rw [c1, zc12_e, q1, zc17_e, q2, zc9_e]
  by_cases ha : ans = -1
  · obtain ⟨T', m, t1, t2, t3, t4, t5, t6⟩ := q3 ha
    have hY : tY T' ≤ 24 := t1.2.1
    obtain ⟨y4, y5, y6, y7, y8, y9, y10, y11, y12, d1, d2⟩ := v_copyT (ty := ty) (ts := ts) (tc := tc) (tt := tt) (tsy := tsy) (tsz := tsz) (tgr := tgr) (tlv := tlv) (tk := tk) (tcy := tcy) (tp := tp) (te := te) t1 t2
    obtain ⟨n1, n2, n3, e1, e2⟩ := v_beginN t1 (nh := nh) (nf := nf) (nl := nl) (ns := ns) (ny := ny) (no := no) (fun s hs => (d2.2.2.2.2.1 s hs).2.1) (fun c hc => (d2.2.2.2.2.2 c hc).2.1)
    rw [if_pos ha, if_pos ha, d1, zc12_e, e1, zc6_e, show gy' = nI (tY T') from d2.1, v_beginC hY, zc3_e]
    obtain ⟨r, w1, w2⟩ := m_tells12 t3 t5 hT t1 hM hZ t6 (fun h13 h14 h15 h16 h17 h18 h19 h20 h21 => zc1 (F_X9_copy h16 (76 : Int32) (0 : Int32)) (fun g24 => wr 2 (0 : Int32) (upd isK ((0 : Int32)).toNatClampNeg (vp_nar .boolean (0 : Int32))) (fun g26 => wr 2 (1 : Int32) (upd g26 ((1 : Int32)).toNatClampNeg (vp_nar .boolean (0 : Int32))) (fun g28 => some (rm', (0 : Int32), rm', h13, h14, h15, a2, pl', en', ry', rs', rc', (0 : Int32), g24, g28, read', h17, h18, h19, h20, h21)))))
      (P := fun r => r.1 = nI m ∧ r.2.1 = 0 ∧ r.2.2.2.2.2.2.2.2.2.2.2.2.1 = 0 ∧ (mT r.2.2.2.1 r.2.2.2.2.1 r.2.2.2.2.2.1 r.2.2.2.2.2.2.2.2.2.2.2.2.2.1 r.2.2.2.2.2.2.2.2.2.2.2.2.2.2.2.2.1 r.2.2.2.2.2.2.2.2.2.2.2.2.2.2.2.2.2.1 r.2.2.2.2.2.2.2.2.2.2.2.2.2.2.2.2.2.2.1 r.2.2.2.2.2.2.2.2.2.2.2.2.2.2.2.2.2.2.2.1 r.2.2.2.2.2.2.2.2.2.2.2.2.2.2.2.2.2.2.2.2 T' ∧ mN 0 r.2.2.2.2.2.2.2.2.2.2.2.2.2.1 T' (stN T') ∧ zR r.2.2.2.2.2.2.2.2.2.2.2.2.2.1 ∧ r.2.2.2.2.2.2.2.2.2.2.2.2.2.2.1 0 = 0 ∧ r.2.2.2.2.2.2.2.2.2.2.2.2.2.2.1 1 = 0))
      (fun my' ms' mc' row' td' sp' kd' pc' er' u1 u2 => by
        obtain ⟨rr, p1, p2, p3⟩ := m_copy (row := row') (a := 76) (b := 0) (by omega) (by omega) (by omega)
        have p1 : F_X9_copy row' (76 : Int32) (0 : Int32) = some rr := p1
        rw [p1, zc1_e, show (0 : Int32) = nI 0 from rfl, wrN (by omega) (by omega), show (1 : Int32) = nI 1 from rfl, wrN (by omega) (by omega), nI_clamp (by omega), nI_clamp (by omega)]
        refine ⟨_, rfl, t5, rfl, rfl, mT_keep t1 u1 (fun j hj => p3 j (by omega)), stN_mN t1 u1 u2 p2, ⟨?_, fun j j1 j2 => ?_⟩, ?_, ?_⟩
        · show rr 82 = 0; rw [p3 82 (by omega)]; exact u2.1
        · show rr j = 0; rw [p3 j (by omega)]; exact u2.2 j j1 j2
        · rfl
        · rfl)
    rw [w1]
    obtain ⟨z1, z2, z3, z4, z5, z6, z7, z8, z9, z10, z11, z12, z13, z14, z15, z16, z17, z18, z19, z20, z21⟩ := r
    obtain ⟨v1, v2, v3, v4, v5, v6, v7, v8⟩ := w2
    have v1 : z1 = nI m := v1
    have v2 : z2 = 0 := v2
    have v3 : z13 = 0 := v3
    refine ⟨_, _, _, _, _, _, _, _, _, _, _, _, _, _, _, _, _, _, _, _, _, _, _, _, _, _, _, _, _, _, _, _, _, _, _, _, _, _, _, _, _, _, _, _, _, _, _, _, _, _, _, _, _, _, _, _, _, _, _, _, rfl, by rw [v1, ← t4], T', stN T', stN T', stN T', 0, 0, 0, t1, stN_ok t1, ?_, e2, v4, v5, v6, ⟨rfl, by omega, v7, v8, fun h => absurd h (by decide), fun h => absurd h (by decide)⟩, ?_, ?_⟩
    · rw [← d2.1]; exact d2
    · rw [v3]; exact cluR_begin
    · rw [v2]; exact ⟨rfl, rfl, by omega, fun k hk => by omega⟩
  · rw [if_neg ha, if_neg ha]
    exact ⟨_, _, _, _, _, _, _, _, _, _, _, _, _, _, _, _, _, _, _, _, _, _, _, _, _, _, _, _, _, _, _, _, _, _, _, _, _, _, _, _, _, _, _, _, _, _, _, _, _, _, _, _, _, _, _, _, _, _, _, _, rfl, rfl, h0⟩
