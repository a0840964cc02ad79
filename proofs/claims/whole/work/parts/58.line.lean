/-! ===== a line ===== -/
theorem m_isChW : ∀ c, c < 9 → F_X9_isChildWord (nI c) = some (if 3 ≤ c ∧ c ≤ 6 then 1 else 0) := by decide +kernel
section
variable {len mlen : Int32} {sg mt : Nat → Int32} {L : Nat} {ch : Nat → Nat}
theorem m_restChild {ml rm at' pl en Y : Int32} {read : Nat → Int32} {c : Nat} (h3 : 3 ≤ c) (h6 : c ≤ 6) : F_X9_readsRest ml rm at' pl en Y mt read (nI c) = zc5 (F_X9_reads ml rm at' pl en mt read (0 : Int32) (0 : Int32) (Y - (1 : Int32))) (fun v54 g55 g56 g57 g58 => if v54 = 0 then (some ((0 : Int32), g55, g56, g57, g58)) else (zc5 (F_X9_reads ml rm g55 g56 g57 mt g58 (1 : Int32) (0 : Int32) (3 : Int32)) (fun v61 g62 g63 g64 g65 => if v61 = 0 then (some ((0 : Int32), g62, g63, g64, g65)) else (zc5 (F_X9_reads ml rm g62 g63 g64 mt g65 (2 : Int32) (0 : Int32) (9 : Int32)) (fun v68 g69 g70 g71 g72 => if v68 = 0 then (some ((0 : Int32), g69, g70, g71, g72)) else (some ((1 : Int32), g69, g70, g71, g72))))))) := by
  unfold F_X9_readsRest
  rw [bdE]
  rcases (show c = 3 ∨ c = 4 ∨ c = 5 ∨ c = 6 by omega) with rfl | rfl | rfl | rfl
  · simp only [show (nI 3 = (0 : Int32)) = False from eq_false (by decide), show (nI 3 = (1 : Int32)) = False from eq_false (by decide), show (nI 3 = (2 : Int32)) = False from eq_false (by decide), show (nI 3 = (3 : Int32)) = True from eq_true (by decide), if_true, if_false]
  · simp only [show (nI 4 = (0 : Int32)) = False from eq_false (by decide), show (nI 4 = (1 : Int32)) = False from eq_false (by decide), show (nI 4 = (2 : Int32)) = False from eq_false (by decide), show (nI 4 = (3 : Int32)) = False from eq_false (by decide), show (nI 4 = (4 : Int32)) = True from eq_true (by decide), if_true, if_false]
  · simp only [show (nI 5 = (0 : Int32)) = False from eq_false (by decide), show (nI 5 = (1 : Int32)) = False from eq_false (by decide), show (nI 5 = (2 : Int32)) = False from eq_false (by decide), show (nI 5 = (3 : Int32)) = False from eq_false (by decide), show (nI 5 = (4 : Int32)) = False from eq_false (by decide), show (nI 5 = (5 : Int32)) = True from eq_true (by decide), if_true, if_false]
  · simp only [show (nI 6 = (0 : Int32)) = False from eq_false (by decide), show (nI 6 = (1 : Int32)) = False from eq_false (by decide), show (nI 6 = (2 : Int32)) = False from eq_false (by decide), show (nI 6 = (3 : Int32)) = False from eq_false (by decide), show (nI 6 = (4 : Int32)) = False from eq_false (by decide), show (nI 6 = (5 : Int32)) = False from eq_false (by decide), show (nI 6 = (6 : Int32)) = True from eq_true (by decide), if_true, if_false]
theorem b_childLine (hX : txR len sg mlen mt L ch) {e rm Y C c : Nat} {r1 r2 kI : Int32} {gk gcy gp ge read : Nat → Int32} (h3 : 3 ≤ c) (h6 : c ≤ 6) (he : e ≤ L) (hrm : rm < 12) (hY : 1 ≤ Y ∧ Y ≤ 24) (hC : C < 5) :
    ∃ ok gc' gk' gcy' gp' ge' s' b' e' at' pl' en' read', F_X4_readChild len sg (nI Y) (nI C) gk gcy gp ge r1 r2 (nI e) kI = some (ok, gc', gk', gcy', gp', ge', s', b', e') ∧ F_X9_readsRest mlen (nI rm) (nI (nxE L ch e)) (nI (tB L ch e)) (nI (nxE L ch e)) (nI Y) mt read (nI c) = some (ok, at', pl', en', read') ∧ ((ok = 0 ∧ b' = pl' ∧ ∃ q, q < 2 ^ 30 ∧ b' = nI q) ∨ (ok = 1 ∧ ∃ v1 v2 v3 p, v1 < Y ∧ v2 ≤ 3 ∧ v3 ≤ 9 ∧ p ≤ L ∧ e' = nI p ∧ pl' = nI (tB L ch p) ∧ at' = nI (nxE L ch p) ∧ en' = nI (nxE L ch p) ∧ gc' = nI (C + 1) ∧ gk' = upd gk C kI ∧ gcy' = upd gcy C (nI v1) ∧ gp' = upd gp C (nI v2) ∧ ge' = upd ge C (nI v3) ∧ read' = upd (upd (upd read (5 * rm + 1) (nI v1)) (5 * rm + 2) (nI v2)) (5 * rm + 3) (nI v3))) := by
  have hL : L ≤ 200 := hX.2.2.1
  have hb := (tB_ok (ch := ch) he).2
  have hE1 := nxE_le (ch := ch) he
  have hb2 := (tB_ok (ch := ch) hE1).2
  have hE2 := nxE_le (ch := ch) hE1
  have hb3 := (tB_ok (ch := ch) hE2).2
  have hE3 := nxE_le (ch := ch) hE2
  have n1 : F_X4_readNumber len sg r1 r2 (nI e) (0 : Int32) (nI (Y - 1)) = _ := v_readNumber hX (lo := 0) (hi := Y - 1) he (by omega) (by omega)
  have n2 : ∀ r1 r2, F_X4_readNumber len sg r1 r2 (nI (nxE L ch e)) (0 : Int32) (3 : Int32) = _ := fun r1 r2 => v_readNumber hX (r1 := r1) (r2 := r2) (lo := 0) (hi := 3) hE1 (by omega) (by omega)
  have n3 : ∀ r1 r2, F_X4_readNumber len sg r1 r2 (nI (nxE L ch (nxE L ch e))) (0 : Int32) (9 : Int32) = _ := fun r1 r2 => v_readNumber hX (r1 := r1) (r2 := r2) (lo := 0) (hi := 9) hE2 (by omega) (by omega)
  have hroom : F_X7_hasRoomForChild (nI C) = some 1 := by
    unfold F_X7_hasRoomForChild
    rw [show (5 : Int32) = nI 5 from rfl, if_neg (nI_ge hC (by omega))]
  rw [m_restChild h3 h6]
  unfold F_X4_readChild
  rw [hroom, zc1_e, bdE, subN1 Y (by omega), if_neg (by decide), n1, zc4_e]
  simp only [zj4]
  cases h1 : nmO L ch (tB L ch e) 0 (Y - 1) with
  | none =>
    have k1 : F_X9_reads mlen (nI rm) (nI (nxE L ch e)) (nI (tB L ch e)) (nI (nxE L ch e)) mt read (0 : Int32) (0 : Int32) (nI (Y - 1)) = _ := m_readsN hX (k := 0) (lo := 0) (hi := Y - 1) (v := 0) hb (by omega) (by omega) h1
    rw [k1, zc5_e]
    simp only [oI_no, if_true, eq00, show ((-1 : Int32) = -1) = True from eq_true rfl]
    exact ⟨_, _, _, _, _, _, _, _, _, _, _, _, _, rfl, rfl, Or.inl ⟨rfl, rfl, _, by omega, rfl⟩⟩
  | some v1 =>
    have hv1 := nmO_hi h1
    have k1 : F_X9_reads mlen (nI rm) (nI (nxE L ch e)) (nI (tB L ch e)) (nI (nxE L ch e)) mt read (0 : Int32) (0 : Int32) (nI (Y - 1)) = _ := m_readsS hX (k := 0) (lo := 0) (hi := Y - 1) hb (by omega) (by omega) hrm (by omega) h1
    rw [k1, zc5_e]
    simp only [oI_ne (show v1 < 2 ^ 31 by omega), if_false, ne10, n2, zc4_e]
    cases h2 : nmO L ch (tB L ch (nxE L ch e)) 0 3 with
    | none =>
      have k2 : ∀ rd, F_X9_reads mlen (nI rm) (nI (nxE L ch (nxE L ch e))) (nI (tB L ch (nxE L ch e))) (nI (nxE L ch (nxE L ch e))) mt rd (1 : Int32) (0 : Int32) (3 : Int32) = _ := fun rd => m_readsN hX (k := 1) (lo := 0) (hi := 3) (v := 0) (read := rd) hb2 (by omega) (by omega) h2
      rw [k2, zc5_e]
      simp only [oI_no, if_true, eq00, show ((-1 : Int32) = -1) = True from eq_true rfl]
      exact ⟨_, _, _, _, _, _, _, _, _, _, _, _, _, rfl, rfl, Or.inl ⟨rfl, rfl, _, by omega, rfl⟩⟩
    | some v2 =>
      have hv2 := nmO_hi h2
      have k2 : ∀ rd, F_X9_reads mlen (nI rm) (nI (nxE L ch (nxE L ch e))) (nI (tB L ch (nxE L ch e))) (nI (nxE L ch (nxE L ch e))) mt rd (1 : Int32) (0 : Int32) (3 : Int32) = _ := fun rd => m_readsS hX (k := 1) (lo := 0) (hi := 3) (read := rd) hb2 (by omega) (by omega) hrm (by omega) h2
      rw [k2, zc5_e]
      simp only [oI_ne (show v2 < 2 ^ 31 by omega), if_false, ne10, n3, zc4_e]
      cases h3 : nmO L ch (tB L ch (nxE L ch (nxE L ch e))) 0 9 with
      | none =>
        have k3 : ∀ rd, F_X9_reads mlen (nI rm) (nI (nxE L ch (nxE L ch (nxE L ch e)))) (nI (tB L ch (nxE L ch (nxE L ch e)))) (nI (nxE L ch (nxE L ch (nxE L ch e)))) mt rd (2 : Int32) (0 : Int32) (9 : Int32) = _ := fun rd => m_readsN hX (k := 2) (lo := 0) (hi := 9) (v := 0) (read := rd) hb3 (by omega) (by omega) h3
        rw [k3, zc5_e]
        simp only [oI_no, if_true, eq00]
        exact ⟨_, _, _, _, _, _, _, _, _, _, _, _, _, rfl, rfl, Or.inl ⟨rfl, rfl, _, by omega, rfl⟩⟩
      | some v3 =>
        have hv3 := nmO_hi h3
        have k3 : ∀ rd, F_X9_reads mlen (nI rm) (nI (nxE L ch (nxE L ch (nxE L ch e)))) (nI (tB L ch (nxE L ch (nxE L ch e)))) (nI (nxE L ch (nxE L ch (nxE L ch e)))) mt rd (2 : Int32) (0 : Int32) (9 : Int32) = _ := fun rd => m_readsS hX (k := 2) (lo := 0) (hi := 9) (read := rd) hb3 (by omega) (by omega) hrm (by omega) h3
        rw [k3, zc5_e]
        have hadd : F_X7_addChild (nI C) gk gcy gp ge kI (oI (some v1)) (oI (some v2)) (oI (some v3)) = some (nI (C + 1), upd gk C kI, upd gcy C (nI v1), upd gp C (nI v2), upd ge C (nI v3)) := by
          unfold F_X7_addChild
          rw [hroom, zc1_e, if_neg (by decide)]
          simp (disch := omega) only [wrN, nI_clamp, bdE, nI_1]
          rfl
        simp only [oI_ne (show v3 < 2 ^ 31 by omega), if_false, ne10, hadd, zc5_e]
        exact ⟨_, _, _, _, _, _, _, _, _, _, _, _, _, rfl, rfl, Or.inr ⟨rfl, v1, v2, v3, _, by omega, hv2.2, hv3.2, hE3, rfl, rfl, rfl, rfl, rfl, rfl, rfl, rfl, rfl, rfl⟩⟩
/-! the reference's line, by the word -/
def wdX (c : Nat) : Nat := if c = 7 then 3 else if c = 8 then 4 else if c < 3 then c else c + 2
theorem m_wordOf (hX : txR len sg mlen mt L ch) {b : Nat} (hb : b ≤ L) : (∀ c, c < 9 → isW L ch b (wdX c) = true → F_X9_wordOf (nI b) (nI (tE L ch b)) mt = some (nI c)) ∧ ((∀ w, w < 9 → isW L ch b w = false) → F_X9_wordOf (nI b) (nI (tE L ch b)) mt = some (-1)) := by
  have k0 : F_X9_isWord (nI b) (nI (tE L ch b)) mt (175396 : Int32) (4 : Int32) = _ := m_isWord hX (w := 0) hb (by omega)
  have k1 : F_X9_isWord (nI b) (nI (tE L ch b)) mt (168244 : Int32) (4 : Int32) = _ := m_isWord hX (w := 1) hb (by omega)
  have k2 : F_X9_isWord (nI b) (nI (tE L ch b)) mt (529587 : Int32) (4 : Int32) = _ := m_isWord hX (w := 2) hb (by omega)
  have k3 : F_X9_isWord (nI b) (nI (tE L ch b)) mt (26180 : Int32) (3 : Int32) = _ := m_isWord hX (w := 3) hb (by omega)
  have k4 : F_X9_isWord (nI b) (nI (tE L ch b)) mt (418881651 : Int32) (6 : Int32) = _ := m_isWord hX (w := 4) hb (by omega)
  have k5 : F_X9_isWord (nI b) (nI (tE L ch b)) mt (14976400 : Int32) (5 : Int32) = _ := m_isWord hX (w := 5) hb (by omega)
  have k6 : F_X9_isWord (nI b) (nI (tE L ch b)) mt (4376884 : Int32) (5 : Int32) = _ := m_isWord hX (w := 6) hb (by omega)
  have k7 : F_X9_isWord (nI b) (nI (tE L ch b)) mt (787944 : Int32) (4 : Int32) = _ := m_isWord hX (w := 7) hb (by omega)
  have k8 : F_X9_isWord (nI b) (nI (tE L ch b)) mt (197796 : Int32) (4 : Int32) = _ := m_isWord hX (w := 8) hb (by omega)
  unfold F_X9_wordOf F_X9_childWord
  rw [k0, k1, k2, k3, k4, k5, k6, k7, k8]
  refine ⟨fun c hc h => ?_, fun h => ?_⟩
  · have hx : wdX c < 9 := by unfold wdX; split <;> (try split) <;> (try split) <;> omega
    have ho : ∀ u, u < 9 → u ≠ wdX c → isW L ch b u = false := fun u hu hne => Bool.eq_false_iff.mpr (fun h' => hne (isW_uniq hu hx h' h))
    rcases (show c = 0 ∨ c = 1 ∨ c = 2 ∨ c = 3 ∨ c = 4 ∨ c = 5 ∨ c = 6 ∨ c = 7 ∨ c = 8 by omega) with rfl | rfl | rfl | rfl | rfl | rfl | rfl | rfl | rfl
    · rw [show isW L ch b 0 = true from h, ho 5 (by omega) (by decide), ho 6 (by omega) (by decide), ho 7 (by omega) (by decide), ho 8 (by omega) (by decide)]; rfl
    · rw [show isW L ch b 1 = true from h, ho 5 (by omega) (by decide), ho 6 (by omega) (by decide), ho 7 (by omega) (by decide), ho 8 (by omega) (by decide), ho 0 (by omega) (by decide)]; rfl
    · rw [show isW L ch b 2 = true from h, ho 5 (by omega) (by decide), ho 6 (by omega) (by decide), ho 7 (by omega) (by decide), ho 8 (by omega) (by decide), ho 0 (by omega) (by decide), ho 1 (by omega) (by decide)]; rfl
    · rw [show isW L ch b 5 = true from h]; rfl
    · rw [show isW L ch b 6 = true from h, ho 5 (by omega) (by decide)]; rfl
    · rw [show isW L ch b 7 = true from h, ho 5 (by omega) (by decide), ho 6 (by omega) (by decide)]; rfl
    · rw [show isW L ch b 8 = true from h, ho 5 (by omega) (by decide), ho 6 (by omega) (by decide), ho 7 (by omega) (by decide)]; rfl
    · rw [show isW L ch b 3 = true from h, ho 5 (by omega) (by decide), ho 6 (by omega) (by decide), ho 7 (by omega) (by decide), ho 8 (by omega) (by decide), ho 0 (by omega) (by decide), ho 1 (by omega) (by decide), ho 2 (by omega) (by decide)]; rfl
    · rw [show isW L ch b 4 = true from h, ho 5 (by omega) (by decide), ho 6 (by omega) (by decide), ho 7 (by omega) (by decide), ho 8 (by omega) (by decide), ho 0 (by omega) (by decide), ho 1 (by omega) (by decide), ho 2 (by omega) (by decide), ho 3 (by omega) (by decide)]; rfl
  · rw [h 0 (by omega), h 1 (by omega), h 2 (by omega), h 3 (by omega), h 4 (by omega), h 5 (by omega), h 6 (by omega), h 7 (by omega), h 8 (by omega)]; rfl
end
