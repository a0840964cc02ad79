/-! ===== lines of a text ===== -/
def updN (f : Nat → Nat) (k x : Nat) : Nat → Nat := fun j => if j = k then x else f j
def tellN (T : TA) (c v1 v2 v3 v4 : Nat) : TA :=
  if c = 0 then (v1, 0, 0, fun _ => 0, tSy T, tSz T, tGr T, tLv T, tKd T, tCy T, tPc T, tEr T)
  else if c = 1 then (tY T, tS T, tC T, updN (tTd T) v1 v2, tSy T, tSz T, tGr T, tLv T, tKd T, tCy T, tPc T, tEr T)
  else if c = 2 then (tY T, tS T + 1, tC T, tTd T, updN (tSy T) (tS T) v1, updN (tSz T) (tS T) v2, updN (tGr T) (tS T) v3, updN (tLv T) (tS T) v4, tKd T, tCy T, tPc T, tEr T)
  else if c = 7 then (tY T, 0, tC T, tTd T, tSy T, tSz T, tGr T, tLv T, tKd T, tCy T, tPc T, tEr T)
  else if c = 8 then (tY T, tS T, 0, tTd T, tSy T, tSz T, tGr T, tLv T, tKd T, tCy T, tPc T, tEr T)
  else (tY T, tS T, tC T + 1, tTd T, tSy T, tSz T, tGr T, tLv T, updN (tKd T) (tC T) (c - 3), updN (tCy T) (tC T) v1, updN (tPc T) (tC T) v2, updN (tEr T) (tC T) v3)
theorem v_fillI {arr : Nat → Int32} {n : Nat} (hn : n < 1000) : ∃ g, F_J7_fill_53178 arr n (0 : Int32) = some g ∧ ∀ k, k < n → g k = 0 := by
  unfold F_J7_fill_53178
  rw [bdE, show Int32.ofNat n = nI n from rfl]
  refine zl2_inv (fun i x h => x = nI i ∧ ∀ k, k < i → h k = 0) n (fun i x h hi hI => ?_) (fun x h hI k => ?_) n 0 FU _ _ (Nat.sub_zero _).symm (by omega) (by unfold FU; omega) ⟨rfl, fun k hk => by omega⟩
  · obtain ⟨rfl, i2⟩ := hI
    refine ⟨nI (i + 1), upd h i 0, ⟨rfl, fun k hk => ?_⟩, fun k => ?_⟩
    · rw [upd_at]
      by_cases e : k = i
      · rw [if_pos e]
      · rw [if_neg e]; exact i2 k (by omega)
    · simp (disch := omega) only [leN, show ¬ n ≤ i by omega, if_false, wrN, nI_clamp, bdE, nI_1]
  · obtain ⟨rfl, i2⟩ := hI
    rw [if_pos (nI_le (Nat.le_refl _) (by omega))]
    exact ⟨_, rfl, i2⟩
abbrev nxE (L : Nat) (ch : Nat → Nat) (e : Nat) : Nat := tE L ch (tB L ch e)
theorem nxE_le {L e : Nat} {ch : Nat → Nat} (h : e ≤ L) : nxE L ch e ≤ L := (tE_ok (tB_ok h).2).2.1
theorem oI_ne {v : Nat} (h : v < 2 ^ 31) : (oI (some v) = (-1 : Int32)) = False := neM1 h
theorem oI_no : (oI none = (-1 : Int32)) = True := eq_true rfl
section
variable {len mlen : Int32} {sg mt : Nat → Int32} {L : Nat} {ch : Nat → Nat}
theorem b_dikeLine (hX : txR len sg mlen mt L ch) {e rm : Nat} {gy gs gc r1 r2 : Int32} {gt read : Nat → Int32} {Y : Int32} (he : e ≤ L) (hrm : rm < 12) :
    ∃ ok gy' gs' gc' gt' s' b' e' at' pl' en' read', F_X4_readDike len sg gy gs gc gt r1 r2 (nI e) = some (ok, gy', gs', gc', gt', s', b', e') ∧ F_X9_readsRest mlen (nI rm) (nI (nxE L ch e)) (nI (tB L ch e)) (nI (nxE L ch e)) Y mt read (nI 0) = some (ok, at', pl', en', read') ∧ ((ok = 0 ∧ b' = pl' ∧ ∃ q, q < 2 ^ 30 ∧ b' = nI q) ∨ (ok = 1 ∧ ∃ v p, 4 ≤ v ∧ v ≤ 24 ∧ p ≤ L ∧ e' = nI p ∧ pl' = nI (tB L ch p) ∧ at' = nI (nxE L ch p) ∧ en' = nI (nxE L ch p) ∧ gy' = nI v ∧ gs' = 0 ∧ gc' = 0 ∧ (∀ k, k < 12 → gt' k = 0) ∧ read' = upd read (5 * rm + 1) (nI v))) := by
  have hL : L ≤ 200 := hX.2.2.1
  have hb := (tB_ok (ch := ch) he).2
  have h1 := v_readNumber hX (r1 := r1) (r2 := r2) (lo := 4) (hi := 24) he (by omega) (by omega)
  have h1 : F_X4_readNumber len sg r1 r2 (nI e) (4 : Int32) (24 : Int32) = _ := h1
  unfold F_X4_readDike F_X9_readsRest
  rw [h1, zc4_e, bdE, if_pos (show nI 0 = (0 : Int32) from rfl)]
  cases hn : nmO L ch (tB L ch e) 4 24 with
  | none =>
    have h2 : F_X9_reads mlen (nI rm) (nI (nxE L ch e)) (nI (tB L ch e)) (nI (nxE L ch e)) mt read (0 : Int32) (4 : Int32) (24 : Int32) = _ := m_readsN hX (k := 0) (lo := 4) (hi := 24) (v := 0) hb (by omega) (by omega) hn
    rw [h2, zc5_e, ckZ0]
    simp only [oI_no, if_true]
    exact ⟨_, _, _, _, _, _, _, _, _, _, _, _, rfl, rfl, Or.inl ⟨rfl, rfl, _, by omega, rfl⟩⟩
  | some v =>
    have hv := nmO_hi hn
    have h2 : F_X9_reads mlen (nI rm) (nI (nxE L ch e)) (nI (tB L ch e)) (nI (nxE L ch e)) mt read (0 : Int32) (4 : Int32) (24 : Int32) = _ := m_readsS hX (k := 0) (lo := 4) (hi := 24) hb (by omega) (by omega) hrm (by omega) hn
    rw [h2, zc5_e, ckZ1]
    obtain ⟨g, g1, g2⟩ := v_fillI (arr := gt) (n := 12) (by omega)
    simp only [oI_ne (show v < 2 ^ 31 by omega), if_false]
    unfold F_X7_startAnew
    rw [g1, zc1_e, zc4_e]
    exact ⟨_, _, _, _, _, _, _, _, _, _, _, _, rfl, rfl, Or.inr ⟨rfl, v, nxE L ch e, hv.1, hv.2, nxE_le he, rfl, rfl, rfl, rfl, rfl, rfl, rfl, g2, rfl⟩⟩
theorem b_tideLine (hX : txR len sg mlen mt L ch) {e rm : Nat} {r1 r2 : Int32} {gt read : Nat → Int32} {Y : Int32} (he : e ≤ L) (hrm : rm < 12) :
    ∃ ok gt' s' b' e' at' pl' en' read', F_X4_readTide len sg gt r1 r2 (nI e) = some (ok, gt', s', b', e') ∧ F_X9_readsRest mlen (nI rm) (nI (nxE L ch e)) (nI (tB L ch e)) (nI (nxE L ch e)) Y mt read (nI 1) = some (ok, at', pl', en', read') ∧ ((ok = 0 ∧ b' = pl' ∧ ∃ q, q < 2 ^ 30 ∧ b' = nI q) ∨ (ok = 1 ∧ ∃ v1 v2 p, v1 ≤ 11 ∧ v2 ≤ 9 ∧ p ≤ L ∧ e' = nI p ∧ pl' = nI (tB L ch p) ∧ at' = nI (nxE L ch p) ∧ en' = nI (nxE L ch p) ∧ gt' = upd gt v1 (nI v2) ∧ read' = upd (upd read (5 * rm + 1) (nI v1)) (5 * rm + 2) (nI v2))) := by
  have hL : L ≤ 200 := hX.2.2.1
  have hb := (tB_ok (ch := ch) he).2
  have hE := nxE_le (ch := ch) he
  have hb2 := (tB_ok (ch := ch) hE).2
  have h1 : F_X4_readNumber len sg r1 r2 (nI e) (0 : Int32) (11 : Int32) = _ := v_readNumber hX (lo := 0) (hi := 11) he (by omega) (by omega)
  have h2 : ∀ r1 r2, F_X4_readNumber len sg r1 r2 (nI (nxE L ch e)) (0 : Int32) (9 : Int32) = _ := fun r1 r2 => v_readNumber hX (r1 := r1) (r2 := r2) (lo := 0) (hi := 9) hE (by omega) (by omega)
  unfold F_X4_readTide F_X9_readsRest
  rw [h1, zc4_e, bdE]
  simp only [show (nI 1 = (0 : Int32)) = False from eq_false (by decide), show (nI 1 = (1 : Int32)) = True from eq_true rfl, if_true, if_false]
  cases hn : nmO L ch (tB L ch e) 0 11 with
  | none =>
    have k1 : F_X9_reads mlen (nI rm) (nI (nxE L ch e)) (nI (tB L ch e)) (nI (nxE L ch e)) mt read (0 : Int32) (0 : Int32) (11 : Int32) = _ := m_readsN hX (k := 0) (lo := 0) (hi := 11) (v := 0) hb (by omega) (by omega) hn
    rw [k1, zc5_e]
    simp only [show (oI none < (0 : Int32)) = True from eq_true (by decide), if_true, eq00]
    exact ⟨_, _, _, _, _, _, _, _, _, rfl, rfl, Or.inl ⟨rfl, rfl, _, by omega, rfl⟩⟩
  | some v1 =>
    have hv1 := nmO_hi hn
    have k1 : F_X9_reads mlen (nI rm) (nI (nxE L ch e)) (nI (tB L ch e)) (nI (nxE L ch e)) mt read (0 : Int32) (0 : Int32) (11 : Int32) = _ := m_readsS hX (k := 0) (lo := 0) (hi := 11) hb (by omega) (by omega) hrm (by omega) hn
    rw [k1, zc5_e]
    simp (disch := omega) only [show oI (some v1) = nI v1 from rfl, nlt0, show (12 : Int32) = nI 12 from rfl, ltN, show v1 < 12 by omega, if_true, if_false, ne10]
    rw [h2, zc4_e]
    cases hn2 : nmO L ch (tB L ch (nxE L ch e)) 0 9 with
    | none =>
      have k2 : ∀ rd, F_X9_reads mlen (nI rm) (nI (nxE L ch (nxE L ch e))) (nI (tB L ch (nxE L ch e))) (nI (nxE L ch (nxE L ch e))) mt rd (1 : Int32) (0 : Int32) (9 : Int32) = _ := fun rd => m_readsN hX (k := 1) (lo := 0) (hi := 9) (v := 0) (read := rd) hb2 (by omega) (by omega) hn2
      rw [k2, zc5_e]
      simp only [oI_no, if_true, eq00]
      exact ⟨_, _, _, _, _, _, _, _, _, rfl, rfl, Or.inl ⟨rfl, rfl, _, by omega, rfl⟩⟩
    | some v2 =>
      have hv2 := nmO_hi hn2
      have k2 : ∀ rd, F_X9_reads mlen (nI rm) (nI (nxE L ch (nxE L ch e))) (nI (tB L ch (nxE L ch e))) (nI (nxE L ch (nxE L ch e))) mt rd (1 : Int32) (0 : Int32) (9 : Int32) = _ := fun rd => m_readsS hX (k := 1) (lo := 0) (hi := 9) (read := rd) hb2 (by omega) (by omega) hrm (by omega) hn2
      rw [k2, zc5_e]
      simp (disch := omega) only [oI_ne (show v2 < 2 ^ 31 by omega), if_false, wrN, nI_clamp, ne10]
      exact ⟨_, _, _, _, _, _, _, _, _, rfl, rfl, Or.inr ⟨rfl, v1, v2, nxE L ch (nxE L ch e), hv1.2, hv2.2, nxE_le hE, rfl, rfl, rfl, rfl, rfl, rfl⟩⟩
theorem b_seepLine (hX : txR len sg mlen mt L ch) {e rm Y S : Nat} {r1 r2 : Int32} {gsy gsz ggr glv read : Nat → Int32} (he : e ≤ L) (hrm : rm < 12) (hY : 1 ≤ Y ∧ Y ≤ 24) (hS : S < 6) :
    ∃ ok gs' gsy' gsz' ggr' glv' s' b' e' at' pl' en' read', F_X4_readSeep len sg (nI Y) (nI S) gsy gsz ggr glv r1 r2 (nI e) = some (ok, gs', gsy', gsz', ggr', glv', s', b', e') ∧ F_X9_readsRest mlen (nI rm) (nI (nxE L ch e)) (nI (tB L ch e)) (nI (nxE L ch e)) (nI Y) mt read (nI 2) = some (ok, at', pl', en', read') ∧ ((ok = 0 ∧ b' = pl' ∧ ∃ q, q < 2 ^ 30 ∧ b' = nI q) ∨ (ok = 1 ∧ ∃ v1 v2 v3 v4 p, v1 < Y ∧ (1 ≤ v2 ∧ v2 ≤ 99) ∧ v3 ≤ 9 ∧ v4 ≤ 9 ∧ p ≤ L ∧ e' = nI p ∧ pl' = nI (tB L ch p) ∧ at' = nI (nxE L ch p) ∧ en' = nI (nxE L ch p) ∧ gs' = nI (S + 1) ∧ gsy' = upd gsy S (nI v1) ∧ gsz' = upd gsz S (nI v2) ∧ ggr' = upd ggr S (nI v3) ∧ glv' = upd glv S (nI v4) ∧ read' = upd (upd (upd (upd read (5 * rm + 1) (nI v1)) (5 * rm + 2) (nI v2)) (5 * rm + 3) (nI v3)) (5 * rm + 4) (nI v4))) := by
  have hL : L ≤ 200 := hX.2.2.1
  have hb := (tB_ok (ch := ch) he).2
  have hE1 := nxE_le (ch := ch) he
  have hb2 := (tB_ok (ch := ch) hE1).2
  have hE2 := nxE_le (ch := ch) hE1
  have hb3 := (tB_ok (ch := ch) hE2).2
  have hE3 := nxE_le (ch := ch) hE2
  have hb4 := (tB_ok (ch := ch) hE3).2
  have hE4 := nxE_le (ch := ch) hE3
  have n1 : F_X4_readNumber len sg r1 r2 (nI e) (0 : Int32) (nI (Y - 1)) = _ := v_readNumber hX (lo := 0) (hi := Y - 1) he (by omega) (by omega)
  have n2 : ∀ r1 r2, F_X4_readNumber len sg r1 r2 (nI (nxE L ch e)) (1 : Int32) (99 : Int32) = _ := fun r1 r2 => v_readNumber hX (r1 := r1) (r2 := r2) (lo := 1) (hi := 99) hE1 (by omega) (by omega)
  have n3 : ∀ r1 r2, F_X4_readNumber len sg r1 r2 (nI (nxE L ch (nxE L ch e))) (0 : Int32) (9 : Int32) = _ := fun r1 r2 => v_readNumber hX (r1 := r1) (r2 := r2) (lo := 0) (hi := 9) hE2 (by omega) (by omega)
  have n4 : ∀ r1 r2, F_X4_readNumber len sg r1 r2 (nI (nxE L ch (nxE L ch (nxE L ch e)))) (0 : Int32) (9 : Int32) = _ := fun r1 r2 => v_readNumber hX (r1 := r1) (r2 := r2) (lo := 0) (hi := 9) hE3 (by omega) (by omega)
  have hroom : F_X7_hasRoomForSeep (nI S) = some 1 := by
    unfold F_X7_hasRoomForSeep
    rw [show (6 : Int32) = nI 6 from rfl, if_neg (nI_ge hS (by omega))]
  unfold F_X4_readSeep F_X9_readsRest
  rw [hroom, zc1_e, bdE, bdE, subN1 Y (by omega), if_neg (by decide), n1, zc4_e]
  simp only [show (nI 2 = (0 : Int32)) = False from eq_false (by decide), show (nI 2 = (1 : Int32)) = False from eq_false (by decide), show (nI 2 = (2 : Int32)) = True from eq_true rfl, if_true, if_false, zj4]
  cases h1 : nmO L ch (tB L ch e) 0 (Y - 1) with
  | none =>
    have k1 : F_X9_reads mlen (nI rm) (nI (nxE L ch e)) (nI (tB L ch e)) (nI (nxE L ch e)) mt read (0 : Int32) (0 : Int32) (nI (Y - 1)) = _ := m_readsN hX (k := 0) (lo := 0) (hi := Y - 1) (v := 0) hb (by omega) (by omega) h1
    rw [k1, zc5_e]
    simp only [oI_no, if_true, eq00, show ((-1 : Int32) = -1) = True from eq_true rfl]
    exact ⟨_, _, _, _, _, _, _, _, _, _, _, _, _, rfl, rfl, Or.inl ⟨rfl, rfl, _, by omega, rfl⟩⟩
  | some v1 =>
    have hv1 := nmO_hi h1
    have k1 : F_X9_reads mlen (nI rm) (nI (nxE L ch e)) (nI (tB L ch e)) (nI (nxE L ch e)) mt read (0 : Int32) (0 : Int32) (nI (Y - 1)) = _ := m_readsS hX (k := 0) (lo := 0) (hi := Y - 1) hb (by omega) (by omega) hrm (by omega) h1
    rw [k1, zc5_e]
    simp only [oI_ne (show v1 < 2 ^ 31 by omega), if_false, ne10, n2, zc4_e]
    cases h2 : nmO L ch (tB L ch (nxE L ch e)) 1 99 with
    | none =>
      have k2 : ∀ rd, F_X9_reads mlen (nI rm) (nI (nxE L ch (nxE L ch e))) (nI (tB L ch (nxE L ch e))) (nI (nxE L ch (nxE L ch e))) mt rd (1 : Int32) (1 : Int32) (99 : Int32) = _ := fun rd => m_readsN hX (k := 1) (lo := 1) (hi := 99) (v := 0) (read := rd) hb2 (by omega) (by omega) h2
      rw [k2, zc5_e]
      simp only [oI_no, if_true, eq00, show ((-1 : Int32) = -1) = True from eq_true rfl]
      exact ⟨_, _, _, _, _, _, _, _, _, _, _, _, _, rfl, rfl, Or.inl ⟨rfl, rfl, _, by omega, rfl⟩⟩
    | some v2 =>
      have hv2 := nmO_hi h2
      have k2 : ∀ rd, F_X9_reads mlen (nI rm) (nI (nxE L ch (nxE L ch e))) (nI (tB L ch (nxE L ch e))) (nI (nxE L ch (nxE L ch e))) mt rd (1 : Int32) (1 : Int32) (99 : Int32) = _ := fun rd => m_readsS hX (k := 1) (lo := 1) (hi := 99) (read := rd) hb2 (by omega) (by omega) hrm (by omega) h2
      rw [k2, zc5_e]
      simp only [oI_ne (show v2 < 2 ^ 31 by omega), if_false, ne10, n3, zc4_e]
      cases h3 : nmO L ch (tB L ch (nxE L ch (nxE L ch e))) 0 9 with
      | none =>
        have k3 : ∀ rd, F_X9_reads mlen (nI rm) (nI (nxE L ch (nxE L ch (nxE L ch e)))) (nI (tB L ch (nxE L ch (nxE L ch e)))) (nI (nxE L ch (nxE L ch (nxE L ch e)))) mt rd (2 : Int32) (0 : Int32) (9 : Int32) = _ := fun rd => m_readsN hX (k := 2) (lo := 0) (hi := 9) (v := 0) (read := rd) hb3 (by omega) (by omega) h3
        rw [k3, zc5_e]
        simp only [oI_no, if_true, eq00, show ((-1 : Int32) = -1) = True from eq_true rfl]
        exact ⟨_, _, _, _, _, _, _, _, _, _, _, _, _, rfl, rfl, Or.inl ⟨rfl, rfl, _, by omega, rfl⟩⟩
      | some v3 =>
        have hv3 := nmO_hi h3
        have k3 : ∀ rd, F_X9_reads mlen (nI rm) (nI (nxE L ch (nxE L ch (nxE L ch e)))) (nI (tB L ch (nxE L ch (nxE L ch e)))) (nI (nxE L ch (nxE L ch (nxE L ch e)))) mt rd (2 : Int32) (0 : Int32) (9 : Int32) = _ := fun rd => m_readsS hX (k := 2) (lo := 0) (hi := 9) (read := rd) hb3 (by omega) (by omega) hrm (by omega) h3
        rw [k3, zc5_e]
        simp only [oI_ne (show v3 < 2 ^ 31 by omega), if_false, ne10, n4, zc4_e]
        cases h4 : nmO L ch (tB L ch (nxE L ch (nxE L ch (nxE L ch e)))) 0 9 with
        | none =>
          have k4 : ∀ rd, F_X9_reads mlen (nI rm) (nI (nxE L ch (nxE L ch (nxE L ch (nxE L ch e))))) (nI (tB L ch (nxE L ch (nxE L ch (nxE L ch e))))) (nI (nxE L ch (nxE L ch (nxE L ch (nxE L ch e))))) mt rd (3 : Int32) (0 : Int32) (9 : Int32) = _ := fun rd => m_readsN hX (k := 3) (lo := 0) (hi := 9) (v := 0) (read := rd) hb4 (by omega) (by omega) h4
          rw [k4, zc5_e]
          simp only [oI_no, if_true, eq00]
          exact ⟨_, _, _, _, _, _, _, _, _, _, _, _, _, rfl, rfl, Or.inl ⟨rfl, rfl, _, by omega, rfl⟩⟩
        | some v4 =>
          have hv4 := nmO_hi h4
          have k4 : ∀ rd, F_X9_reads mlen (nI rm) (nI (nxE L ch (nxE L ch (nxE L ch (nxE L ch e))))) (nI (tB L ch (nxE L ch (nxE L ch (nxE L ch e))))) (nI (nxE L ch (nxE L ch (nxE L ch (nxE L ch e))))) mt rd (3 : Int32) (0 : Int32) (9 : Int32) = _ := fun rd => m_readsS hX (k := 3) (lo := 0) (hi := 9) (read := rd) hb4 (by omega) (by omega) hrm (by omega) h4
          rw [k4, zc5_e]
          have hadd : F_X7_addSeep (nI S) gsy gsz ggr glv (oI (some v1)) (oI (some v2)) (oI (some v3)) (oI (some v4)) = some (nI (S + 1), upd gsy S (nI v1), upd gsz S (nI v2), upd ggr S (nI v3), upd glv S (nI v4)) := by
            unfold F_X7_addSeep
            rw [hroom, zc1_e, if_neg (by decide)]
            simp (disch := omega) only [wrN, nI_clamp, bdE, nI_1]
            rfl
          simp only [oI_ne (show v4 < 2 ^ 31 by omega), if_false, ne10, hadd, zc5_e]
          exact ⟨_, _, _, _, _, _, _, _, _, _, _, _, _, rfl, rfl, Or.inr ⟨rfl, v1, v2, v3, v4, _, by omega, hv2, hv3.2, hv4.2, hE4, rfl, rfl, rfl, rfl, rfl, rfl, rfl, rfl, rfl, rfl⟩⟩
end
