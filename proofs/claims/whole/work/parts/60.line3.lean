/-! ===== a line, alike ===== -/
theorem updN_all {P : Nat → Prop} {f : Nat → Nat} {n v : Nat} (h : ∀ s, s < n → P (f s)) (hv : P v) : ∀ s, s < n + 1 → P (updN f n v s) := fun s hs => by
  unfold updN
  by_cases e : s = n
  · rw [if_pos e]; exact hv
  · rw [if_neg e]; exact h s (by omega)
theorem tell0 (T : TA) (v a b c : Nat) : tellN T 0 v a b c = (v, 0, 0, fun _ => 0, tSy T, tSz T, tGr T, tLv T, tKd T, tCy T, tPc T, tEr T) := by
  unfold tellN; rw [if_pos rfl]
theorem tell1 (T : TA) (v1 v2 a b : Nat) : tellN T 1 v1 v2 a b = (tY T, tS T, tC T, updN (tTd T) v1 v2, tSy T, tSz T, tGr T, tLv T, tKd T, tCy T, tPc T, tEr T) := by
  unfold tellN; rw [if_neg (by decide), if_pos rfl]
theorem tell2 (T : TA) (v1 v2 v3 v4 : Nat) : tellN T 2 v1 v2 v3 v4 = (tY T, tS T + 1, tC T, tTd T, updN (tSy T) (tS T) v1, updN (tSz T) (tS T) v2, updN (tGr T) (tS T) v3, updN (tLv T) (tS T) v4, tKd T, tCy T, tPc T, tEr T) := by
  unfold tellN; rw [if_neg (by decide), if_neg (by decide), if_pos rfl]
theorem tell7 (T : TA) (v1 v2 v3 v4 : Nat) : tellN T 7 v1 v2 v3 v4 = (tY T, 0, tC T, tTd T, tSy T, tSz T, tGr T, tLv T, tKd T, tCy T, tPc T, tEr T) := by
  unfold tellN; rw [if_neg (by decide), if_neg (by decide), if_neg (by decide), if_pos rfl]
theorem tell8 (T : TA) (v1 v2 v3 v4 : Nat) : tellN T 8 v1 v2 v3 v4 = (tY T, tS T, 0, tTd T, tSy T, tSz T, tGr T, tLv T, tKd T, tCy T, tPc T, tEr T) := by
  unfold tellN; rw [if_neg (by decide), if_neg (by decide), if_neg (by decide), if_neg (by decide), if_pos rfl]
theorem tell3 (T : TA) {c : Nat} (v1 v2 v3 v4 : Nat) (h3 : 3 ≤ c) (h6 : c ≤ 6) : tellN T c v1 v2 v3 v4 = (tY T, tS T, tC T + 1, tTd T, tSy T, tSz T, tGr T, tLv T, updN (tKd T) (tC T) (c - 3), updN (tCy T) (tC T) v1, updN (tPc T) (tC T) v2, updN (tEr T) (tC T) v3) := by
  unfold tellN; rw [if_neg (by omega), if_neg (by omega), if_neg (by omega), if_neg (by omega), if_neg (by omega)]
section
variable {len mlen : Int32} {sg mt : Nat → Int32} {L : Nat} {ch : Nat → Nat}
theorem b_line (hX : txR len sg mlen mt L ch) {T : TA} (hT : okT T) {a rm : Nat} (ha : a ≤ L) (hrm : rm < 12) {gy gs gc r1 r2 : Int32} {gt gsy gsz ggr glv gk gcy gp ge read : Nat → Int32} (hD : rT gy gs gc gt gsy gsz ggr glv gk gcy gp ge T) :
    ∃ ok gy' gs' gc' gt' gsy' gsz' ggr' glv' gk' gcy' gp' ge' s' b' e' rm' at' pl' en' ry' rs' rc' read', F_X4_readLine len sg gy gs gc gt gsy gsz ggr glv gk gcy gp ge r1 r2 (nI a) = some (ok, gy', gs', gc', gt', gsy', gsz', ggr', glv', gk', gcy', gp', ge', s', b', e') ∧ F_X9_readsLine mlen (nI rm) (nI (nxE L ch a)) (nI (tB L ch a)) (nI (nxE L ch a)) (nI (tY T)) (nI (tS T)) (nI (tC T)) mt read = some (ok, rm', at', pl', en', ry', rs', rc', read') ∧ ((ok = 0 ∧ b' = pl' ∧ ∃ q, q < 2 ^ 30 ∧ b' = nI q) ∨ (ok = 1 ∧ ∃ T' p, okT T' ∧ p ≤ L ∧ rT gy' gs' gc' gt' gsy' gsz' ggr' glv' gk' gcy' gp' ge' T' ∧ e' = nI p ∧ pl' = nI (tB L ch p) ∧ at' = nI (nxE L ch p) ∧ en' = nI (nxE L ch p) ∧ rm' = nI (rm + 1) ∧ ry' = nI (tY T') ∧ rs' = nI (tS T') ∧ rc' = nI (tC T') ∧ (∀ j, j < 5 * rm → read' j = read j) ∧ lnK read' rm T T')) := by
  have hL : L ≤ 200 := hX.2.2.1
  have hb := (tB_ok (ch := ch) ha).2
  have hE := nxE_le (ch := ch) ha
  have hT' := hT
  obtain ⟨o1, o2, o3, o4, o5, o6, o7⟩ := hT'
  have hD' := hD
  obtain ⟨d1, d2, d3, d4, d5, d6⟩ := hD'
  have kw : ∀ w, w < 9 → F_X4_isWord len sg (nI (csN L ch (tB L ch a))) (nI (tB L ch a)) (nI (nxE L ch a)) w = some (if isW L ch (tB L ch a) w then 1 else 0) := fun w hw => v_isWord hX hb hw
  have tk : ∀ pl en, F_X9_token mlen (nI (nxE L ch a)) pl en mt = some (nI (nxE L ch (nxE L ch a)), nI (tB L ch (nxE L ch a)), nI (nxE L ch (nxE L ch a))) := fun pl en => m_token hX hE
  have one0 : ¬ (1 : Int32) = 0 := by decide
  have hwd := m_wordOf hX hb
  have fr : ∀ c j, j < 5 * rm → upd read (5 * rm) (nI c) j = read j := fun c j hj => by rw [upd_at, if_neg (by omega)]
  unfold F_X4_readLine
  rw [v_token hX ha, zc3_e]
  by_cases hany : ∃ w, w < 9 ∧ isW L ch (tB L ch a) w = true
  · obtain ⟨w, hw, hwt⟩ := hany
    have kt : F_X4_isWord len sg (nI (csN L ch (tB L ch a))) (nI (tB L ch a)) (nI (nxE L ch a)) w = some 1 := by rw [kw w hw, hwt]; rfl
    have kf : ∀ u, u < 9 → u ≠ w → F_X4_isWord len sg (nI (csN L ch (tB L ch a))) (nI (tB L ch a)) (nI (nxE L ch a)) u = some 0 := fun u hu hne => by
      rw [kw u hu, show isW L ch (tB L ch a) u = false from Bool.eq_false_iff.mpr (fun h' => hne (isW_uniq hu hw h' hwt))]; rfl
    rcases (show w = 0 ∨ w = 1 ∨ w = 2 ∨ w = 3 ∨ w = 4 ∨ w = 5 ∨ w = 6 ∨ w = 7 ∨ w = 8 by omega) with rfl | rfl | rfl | rfl | rfl | rfl | rfl | rfl | rfl
    · -- dike
      rw [kt, zc1_e, if_neg one0]
      have hwo := hwd.1 0 (by omega) hwt
      obtain ⟨ok, x1, x2, x3, x4, s', b', e', at', pl', en', read', q1, q2, q3⟩ := b_dikeLine hX (e := nxE L ch a) (rm := rm) (gy := gy) (gs := gs) (gc := gc) (gt := gt) (r1 := nI (csN L ch (tB L ch a))) (r2 := nI (tB L ch a)) (read := upd read (5 * rm) (nI 0)) (Y := nI (tY T)) hE hrm
      rw [q1, zc8_e]
      rcases q3 with ⟨rfl, q4, q5⟩ | ⟨rfl, v, p, v1, v2, y1, y2, y3, y4, y5, y6, y7, y8, y9, y10⟩
      · rw [m_line (c := 0) (by omega) hrm hwo (fun h => by omega) (fun h => by omega) (tk _ _) q2 (Or.inl rfl), ckZ0]
        exact ⟨_, _, _, _, _, _, _, _, _, _, _, _, _, _, _, _, _, _, _, _, _, _, _, _, rfl, rfl, Or.inl ⟨rfl, q4, q5⟩⟩
      · rw [m_line (c := 0) (by omega) hrm hwo (fun h => by omega) (fun h => by omega) (tk _ _) q2 (Or.inr rfl), ckZ1, if_neg one0]
        have er : read' (5 * rm + 1) = nI v := by rw [y10, upd_at, if_pos rfl]
        refine ⟨_, _, _, _, _, _, _, _, _, _, _, _, _, _, _, _, _, _, _, _, _, _, _, _, rfl, rfl, Or.inr ⟨rfl, tellN T 0 v 0 0 0, p, ?_, y1, ?_, y2, y3, y4, y5, rfl, ?_, ?_, ?_, fun j hj => ?_, 0, v, 0, 0, 0, by omega, ?_, rfl, fun _ => ⟨er, by omega⟩, fun h => by omega, fun h => by omega, fun h => by omega⟩⟩
        · rw [tell0]
          exact ⟨v1, v2, by show 0 ≤ 6; omega, by show 0 ≤ 5; omega, fun h _ => by show 0 ≤ 9; omega, fun s hs => absurd hs (by show ¬ s < 0; omega), fun s hs => absurd hs (by show ¬ s < 0; omega)⟩
        · rw [tell0]
          exact ⟨y6, y7, y8, fun h hh => y9 h hh, fun s hs => absurd hs (by show ¬ s < 0; omega), fun s hs => absurd hs (by show ¬ s < 0; omega)⟩
        · rw [tell0, if_pos rfl, er]
        · rw [tell0, if_pos (Or.inl rfl)]; rfl
        · rw [tell0, if_pos (Or.inl rfl)]; rfl
        · rw [y10, upd_at, if_neg (by omega)]; exact fr 0 j hj
        · rw [y10, upd_at, if_neg (by omega), upd_at, if_pos rfl]
    · -- tide
      rw [kf 0 (by omega) (by decide), zc1_e, if_pos (show (0 : Int32) = 0 from rfl), kt, zc1_e, if_neg one0]
      have hwo := hwd.1 1 (by omega) hwt
      obtain ⟨ok, x4, s', b', e', at', pl', en', read', q1, q2, q3⟩ := b_tideLine hX (e := nxE L ch a) (rm := rm) (gt := gt) (r1 := nI (csN L ch (tB L ch a))) (r2 := nI (tB L ch a)) (read := upd read (5 * rm) (nI 1)) (Y := nI (tY T)) hE hrm
      rw [q1, zc5_e]
      rcases q3 with ⟨rfl, q4, q5⟩ | ⟨rfl, v1, v2, p, w1, w2, y1, y2, y3, y4, y5, y6, y7⟩
      · rw [m_line (c := 1) (by omega) hrm hwo (fun h => by omega) (fun h => by omega) (tk _ _) q2 (Or.inl rfl), ckZ0]
        exact ⟨_, _, _, _, _, _, _, _, _, _, _, _, _, _, _, _, _, _, _, _, _, _, _, _, rfl, rfl, Or.inl ⟨rfl, q4, q5⟩⟩
      · rw [m_line (c := 1) (by omega) hrm hwo (fun h => by omega) (fun h => by omega) (tk _ _) q2 (Or.inr rfl), ckZ1, if_neg one0]
        refine ⟨_, _, _, _, _, _, _, _, _, _, _, _, _, _, _, _, _, _, _, _, _, _, _, _, rfl, rfl, Or.inr ⟨rfl, tellN T 1 v1 v2 0 0, p, ?_, y1, ?_, y2, y3, y4, y5, rfl, ?_, ?_, ?_, fun j hj => ?_, 1, v1, v2, 0, 0, by omega, ?_, rfl, fun h => by omega, fun _ => ⟨?_, ?_, w1⟩, fun h => by omega, fun h => by omega⟩⟩
        · rw [tell1]
          refine ⟨o1, o2, o3, o4, fun h hh => ?_, o6, o7⟩
          show updN (tTd T) v1 v2 h ≤ 9
          unfold updN
          split
          · exact w2
          · exact o5 h hh
        · rw [tell1]
          refine ⟨d1, d2, d3, fun h hh => ?_, d5, d6⟩
          show x4 h = nI (updN (tTd T) v1 v2 h)
          rw [y6, upd_at]
          unfold updN
          by_cases e : h = v1
          · rw [if_pos e, if_pos e]
          · rw [if_neg e, if_neg e]; exact d4 h hh
        · rw [tell1, if_neg (by decide)]
        · rw [tell1, if_neg (by decide), if_neg (by decide)]
        · rw [tell1, if_neg (by decide), if_neg (by decide)]
        · rw [y7, upd_at, if_neg (by omega), upd_at, if_neg (by omega)]; exact fr 1 j hj
        · rw [y7, upd_at, if_neg (by omega), upd_at, if_neg (by omega), upd_at, if_pos rfl]
        · rw [y7, upd_at, if_neg (by omega), upd_at, if_pos rfl]
        · rw [y7, upd_at, if_pos rfl]
    · -- seep
      rw [kf 0 (by omega) (by decide), zc1_e, if_pos (show (0 : Int32) = 0 from rfl), kf 1 (by omega) (by decide), zc1_e, if_pos (show (0 : Int32) = 0 from rfl), kt, zc1_e, if_neg one0]
      have hwo := hwd.1 2 (by omega) hwt
      by_cases h6 : tS T = 6
      · have q1 : F_X4_readSeep len sg gy gs gsy gsz ggr glv (nI (csN L ch (tB L ch a))) (nI (tB L ch a)) (nI (nxE L ch a)) = some (0, gs, gsy, gsz, ggr, glv, nI (csN L ch (tB L ch a)), nI (tB L ch a), nI (nxE L ch a)) := by
          unfold F_X4_readSeep F_X7_hasRoomForSeep
          rw [d2, h6, if_pos (show (6 : Int32) ≤ nI 6 from by decide), zc1_e, if_pos rfl]
        have q2 : F_X9_readsLine mlen (nI rm) (nI (nxE L ch a)) (nI (tB L ch a)) (nI (nxE L ch a)) (nI (tY T)) (nI (tS T)) (nI (tC T)) mt read = some (0, nI rm, nI (nxE L ch a), nI (tB L ch a), nI (nxE L ch a), nI (tY T), nI (tS T), nI (tC T), read) := by
          unfold F_X9_readsLine
          rw [hwo, zc1_e, if_neg (show ¬ nI 2 = (-1 : Int32) from by decide), zj0E]
          try dsimp only
          rw [if_pos (show nI 2 = (2 : Int32) from rfl), if_pos (show nI (tS T) = (6 : Int32) from by rw [h6]; rfl)]
        rw [q1, zc9_e, ckZ0, q2]
        exact ⟨_, _, _, _, _, _, _, _, _, _, _, _, _, _, _, _, _, _, _, _, _, _, _, _, rfl, rfl, Or.inl ⟨rfl, rfl, _, by omega, rfl⟩⟩
      · obtain ⟨ok, x2, x5, x6, x7, x8, s', b', e', at', pl', en', read', q1, q2, q3⟩ := b_seepLine hX (e := nxE L ch a) (rm := rm) (Y := tY T) (S := tS T) (gsy := gsy) (gsz := gsz) (ggr := ggr) (glv := glv) (r1 := nI (csN L ch (tB L ch a))) (r2 := nI (tB L ch a)) (read := upd read (5 * rm) (nI 2)) hE hrm (by omega) (by omega)
        rw [d1, d2, q1, zc9_e]
        have h66 : nI (tS T) ≠ 6 := by
          show ¬ nI (tS T) = nI 6
          rw [eqN (by omega) (by omega)]; exact h6
        rcases q3 with ⟨rfl, q4, q5⟩ | ⟨rfl, v1, v2, v3, v4, p, w1, w2, w3, w4, y1, y2, y3, y4, y5, y6, y7, y8, y9, y10, y11⟩
        · rw [m_line (c := 2) (by omega) hrm hwo (fun _ => h66) (fun h => by omega) (tk _ _) q2 (Or.inl rfl), ckZ0]
          exact ⟨_, _, _, _, _, _, _, _, _, _, _, _, _, _, _, _, _, _, _, _, _, _, _, _, rfl, rfl, Or.inl ⟨rfl, q4, q5⟩⟩
        · rw [m_line (c := 2) (by omega) hrm hwo (fun _ => h66) (fun h => by omega) (tk _ _) q2 (Or.inr rfl), ckZ1, if_neg one0]
          refine ⟨_, _, _, _, _, _, _, _, _, _, _, _, _, _, _, _, _, _, _, _, _, _, _, _, rfl, rfl, Or.inr ⟨rfl, tellN T 2 v1 v2 v3 v4, p, ?_, y1, ?_, y2, y3, y4, y5, rfl, ?_, ?_, ?_, fun j hj => ?_, 2, v1, v2, v3, v4, by omega, ?_, rfl, fun h => by omega, fun h => by omega, fun _ => ⟨?_, ?_, ?_, ?_, by omega⟩, fun h => by omega⟩⟩
          · rw [tell2]
            refine ⟨o1, o2, by show tS T + 1 ≤ 6; omega, o4, o5, fun s hs => ⟨?_, ?_, ?_, ?_, ?_⟩, o7⟩
            · exact updN_all (P := fun x => x < tY T) (fun s hs => (o6 s hs).1) w1 s hs
            · exact updN_all (P := fun x => 1 ≤ x) (fun s hs => (o6 s hs).2.1) w2.1 s hs
            · exact updN_all (P := fun x => x ≤ 99) (fun s hs => (o6 s hs).2.2.1) w2.2 s hs
            · exact updN_all (P := fun x => x ≤ 9) (fun s hs => (o6 s hs).2.2.2.1) w3 s hs
            · exact updN_all (P := fun x => x ≤ 9) (fun s hs => (o6 s hs).2.2.2.2) w4 s hs
          · rw [tell2, y7, y8, y9, y10]
            exact ⟨rfl, y6, d3, d4, fun s hs => ⟨rT_upd (fun s hs => (d5 s hs).1) s hs, rT_upd (fun s hs => (d5 s hs).2.1) s hs, rT_upd (fun s hs => (d5 s hs).2.2.1) s hs, rT_upd (fun s hs => (d5 s hs).2.2.2) s hs⟩, d6⟩
          · rw [tell2, if_neg (by decide)]
          · rw [tell2, if_neg (by decide), if_pos rfl, nI_1]
          · rw [tell2, if_neg (by decide), if_neg (by decide)]
          · rw [y11, upd_at, if_neg (by omega), upd_at, if_neg (by omega), upd_at, if_neg (by omega), upd_at, if_neg (by omega)]; exact fr 2 j hj
          · rw [y11, upd_at, if_neg (by omega), upd_at, if_neg (by omega), upd_at, if_neg (by omega), upd_at, if_neg (by omega), upd_at, if_pos rfl]
          · rw [y11, upd_at, if_neg (by omega), upd_at, if_neg (by omega), upd_at, if_neg (by omega), upd_at, if_pos rfl]
          · rw [y11, upd_at, if_neg (by omega), upd_at, if_neg (by omega), upd_at, if_pos rfl]
          · rw [y11, upd_at, if_neg (by omega), upd_at, if_pos rfl]
          · rw [y11, upd_at, if_pos rfl]
    · -- dry
      rw [kf 0 (by omega) (by decide), zc1_e, if_pos (show (0 : Int32) = 0 from rfl), kf 1 (by omega) (by decide), zc1_e, if_pos (show (0 : Int32) = 0 from rfl), kf 2 (by omega) (by decide), zc1_e, if_pos (show (0 : Int32) = 0 from rfl), kt, zc1_e, if_neg one0]
      have hwo := hwd.1 7 (by omega) hwt
      have q2 : F_X9_readsRest mlen (nI rm) (nI (nxE L ch (nxE L ch a))) (nI (tB L ch (nxE L ch a))) (nI (nxE L ch (nxE L ch a))) (nI (tY T)) mt (upd read (5 * rm) (nI 7)) (nI 7) = some (1, nI (nxE L ch (nxE L ch a)), nI (tB L ch (nxE L ch a)), nI (nxE L ch (nxE L ch a)), upd read (5 * rm) (nI 7)) := by
        unfold F_X9_readsRest
        rw [bdE, if_neg (show ¬ nI 7 = (0 : Int32) from by decide), if_neg (show ¬ nI 7 = (1 : Int32) from by decide), if_neg (show ¬ nI 7 = (2 : Int32) from by decide), if_neg (show ¬ nI 7 = (3 : Int32) from by decide), if_neg (show ¬ nI 7 = (4 : Int32) from by decide), if_neg (show ¬ nI 7 = (5 : Int32) from by decide), if_neg (show ¬ nI 7 = (6 : Int32) from by decide), if_pos (show nI 7 = (7 : Int32) from rfl)]
      rw [m_line (c := 7) (by omega) hrm hwo (fun h => by omega) (fun h => by omega) (tk _ _) q2 (Or.inr rfl), if_neg one0]
      refine ⟨_, _, _, _, _, _, _, _, _, _, _, _, _, _, _, _, _, _, _, _, _, _, _, _, rfl, rfl, Or.inr ⟨rfl, tellN T 7 0 0 0 0, nxE L ch a, ?_, hE, ?_, rfl, rfl, rfl, rfl, rfl, ?_, ?_, ?_, fun j hj => fr 7 j hj, 7, 0, 0, 0, 0, by omega, ?_, rfl, fun h => by omega, fun h => by omega, fun h => by omega, fun h => by omega⟩⟩
      · rw [tell7]
        exact ⟨o1, o2, by show 0 ≤ 6; omega, o4, o5, fun s hs => absurd hs (by show ¬ s < 0; omega), o7⟩
      · rw [tell7]
        exact ⟨d1, rfl, d3, d4, fun s hs => absurd hs (by show ¬ s < 0; omega), d6⟩
      · rw [tell7, if_neg (by decide)]
      · rw [tell7, if_pos (Or.inr rfl)]; rfl
      · rw [tell7, if_neg (by decide), if_neg (by decide)]
      · rw [upd_at, if_pos rfl]
    · -- school
      rw [kf 0 (by omega) (by decide), zc1_e, if_pos (show (0 : Int32) = 0 from rfl), kf 1 (by omega) (by decide), zc1_e, if_pos (show (0 : Int32) = 0 from rfl), kf 2 (by omega) (by decide), zc1_e, if_pos (show (0 : Int32) = 0 from rfl), kf 3 (by omega) (by decide), zc1_e, if_pos (show (0 : Int32) = 0 from rfl), kt, zc1_e, if_neg one0]
      have hwo := hwd.1 8 (by omega) hwt
      have q2 : F_X9_readsRest mlen (nI rm) (nI (nxE L ch (nxE L ch a))) (nI (tB L ch (nxE L ch a))) (nI (nxE L ch (nxE L ch a))) (nI (tY T)) mt (upd read (5 * rm) (nI 8)) (nI 8) = some (1, nI (nxE L ch (nxE L ch a)), nI (tB L ch (nxE L ch a)), nI (nxE L ch (nxE L ch a)), upd read (5 * rm) (nI 8)) := by
        unfold F_X9_readsRest
        rw [bdE, if_neg (show ¬ nI 8 = (0 : Int32) from by decide), if_neg (show ¬ nI 8 = (1 : Int32) from by decide), if_neg (show ¬ nI 8 = (2 : Int32) from by decide), if_neg (show ¬ nI 8 = (3 : Int32) from by decide), if_neg (show ¬ nI 8 = (4 : Int32) from by decide), if_neg (show ¬ nI 8 = (5 : Int32) from by decide), if_neg (show ¬ nI 8 = (6 : Int32) from by decide), if_neg (show ¬ nI 8 = (7 : Int32) from by decide), if_pos (show nI 8 = (8 : Int32) from rfl)]
      rw [m_line (c := 8) (by omega) hrm hwo (fun h => by omega) (fun h => by omega) (tk _ _) q2 (Or.inr rfl), if_neg one0]
      refine ⟨_, _, _, _, _, _, _, _, _, _, _, _, _, _, _, _, _, _, _, _, _, _, _, _, rfl, rfl, Or.inr ⟨rfl, tellN T 8 0 0 0 0, nxE L ch a, ?_, hE, ?_, rfl, rfl, rfl, rfl, rfl, ?_, ?_, ?_, fun j hj => fr 8 j hj, 8, 0, 0, 0, 0, by omega, ?_, rfl, fun h => by omega, fun h => by omega, fun h => by omega, fun h => by omega⟩⟩
      · rw [tell8]
        exact ⟨o1, o2, o3, by show 0 ≤ 5; omega, o5, o6, fun s hs => absurd hs (by show ¬ s < 0; omega)⟩
      · rw [tell8]
        exact ⟨d1, d2, rfl, d4, d5, fun s hs => absurd hs (by show ¬ s < 0; omega)⟩
      · rw [tell8, if_neg (by decide)]
      · rw [tell8, if_neg (by decide), if_neg (by decide)]
      · rw [tell8, if_pos (Or.inr rfl)]; rfl
      · rw [upd_at, if_pos rfl]
    · -- child 0
      have hk : F_X4_kindOfWord len sg (nI (csN L ch (tB L ch a))) (nI (tB L ch a)) (nI (nxE L ch a)) = some (0 : Int32) := by
        unfold F_X4_kindOfWord
        rw [kt, zc1_e, if_neg one0]
      rw [kf 0 (by omega) (by decide), zc1_e, if_pos (show (0 : Int32) = 0 from rfl), kf 1 (by omega) (by decide), zc1_e, if_pos (show (0 : Int32) = 0 from rfl), kf 2 (by omega) (by decide), zc1_e, if_pos (show (0 : Int32) = 0 from rfl), kf 3 (by omega) (by decide), zc1_e, if_pos (show (0 : Int32) = 0 from rfl), kf 4 (by omega) (by decide), zc1_e, if_pos (show (0 : Int32) = 0 from rfl), hk, zc1_e, if_neg (show ¬ (0 : Int32) = -1 from by decide)]
      have hwo := hwd.1 3 (by omega) hwt
      by_cases h5 : tC T = 5
      · have q1 : F_X4_readChild len sg gy gc gk gcy gp ge (nI (csN L ch (tB L ch a))) (nI (tB L ch a)) (nI (nxE L ch a)) (0 : Int32) = some (0, gc, gk, gcy, gp, ge, nI (csN L ch (tB L ch a)), nI (tB L ch a), nI (nxE L ch a)) := by
          unfold F_X4_readChild F_X7_hasRoomForChild
          rw [d3, h5, if_pos (show (5 : Int32) ≤ nI 5 from by decide), zc1_e, if_pos rfl]
        have q2 : F_X9_readsLine mlen (nI rm) (nI (nxE L ch a)) (nI (tB L ch a)) (nI (nxE L ch a)) (nI (tY T)) (nI (tS T)) (nI (tC T)) mt read = some (0, nI rm, nI (nxE L ch a), nI (tB L ch a), nI (nxE L ch a), nI (tY T), nI (tS T), nI (tC T), read) := by
          unfold F_X9_readsLine
          rw [hwo, zc1_e, if_neg (show ¬ nI 3 = (-1 : Int32) from by decide), zj0E]
          try dsimp only
          rw [if_neg (show ¬ nI 3 = (2 : Int32) from by decide), show F_X9_isChildWord (nI 3) = some 1 from m_isChW 3 (by omega), zc1_e, zj0E]
          try dsimp only
          rw [if_neg one0, if_pos (show nI (tC T) = (5 : Int32) from by rw [h5]; rfl)]
        rw [q1, zc9_e, if_pos (show (0 : Int32) = 0 from rfl), q2]
        exact ⟨_, _, _, _, _, _, _, _, _, _, _, _, _, _, _, _, _, _, _, _, _, _, _, _, rfl, rfl, Or.inl ⟨rfl, rfl, _, by omega, rfl⟩⟩
      · obtain ⟨ok, x3, x9, x10, x11, x12, s', b', e', at', pl', en', read', q1, q2, q3⟩ := b_childLine hX (e := nxE L ch a) (rm := rm) (Y := tY T) (C := tC T) (c := 3) (kI := (0 : Int32)) (gk := gk) (gcy := gcy) (gp := gp) (ge := ge) (r1 := nI (csN L ch (tB L ch a))) (r2 := nI (tB L ch a)) (read := upd read (5 * rm) (nI 3)) (by omega) (by omega) hE hrm (by omega) (by omega)
        rw [d1, d3, q1, zc9_e]
        have h55 : nI (tC T) ≠ 5 := by
          show ¬ nI (tC T) = nI 5
          rw [eqN (by omega) (by omega)]; exact h5
        rcases q3 with ⟨rfl, q4, q5⟩ | ⟨rfl, v1, v2, v3, p, w1, w2, w3, y1, y2, y3, y4, y5, y6, y7, y8, y9, y10, y11⟩
        · rw [m_line (c := 3) (by omega) hrm hwo (fun h => by omega) (fun _ => h55) (tk _ _) q2 (Or.inl rfl), if_pos (show (0 : Int32) = 0 from rfl)]
          exact ⟨_, _, _, _, _, _, _, _, _, _, _, _, _, _, _, _, _, _, _, _, _, _, _, _, rfl, rfl, Or.inl ⟨rfl, q4, q5⟩⟩
        · rw [m_line (c := 3) (by omega) hrm hwo (fun h => by omega) (fun _ => h55) (tk _ _) q2 (Or.inr rfl), if_neg one0, if_neg one0]
          refine ⟨_, _, _, _, _, _, _, _, _, _, _, _, _, _, _, _, _, _, _, _, _, _, _, _, rfl, rfl, Or.inr ⟨rfl, tellN T 3 v1 v2 v3 0, p, ?_, y1, ?_, y2, y3, y4, y5, rfl, ?_, ?_, ?_, fun j hj => ?_, 3, v1, v2, v3, 0, by omega, ?_, rfl, fun h => by omega, fun h => by omega, fun h => by omega, fun _ => ⟨?_, ?_, ?_, by omega⟩⟩⟩
          · rw [tell3 T v1 v2 v3 0 (show 3 ≤ 3 by omega) (by omega)]
            refine ⟨o1, o2, o3, by show tC T + 1 ≤ 5; omega, o5, o6, fun s hs => ⟨?_, ?_, ?_, ?_⟩⟩
            · exact updN_all (P := fun x => x ≤ 3) (fun s hs => (o7 s hs).1) (by omega) s hs
            · exact updN_all (P := fun x => x < tY T) (fun s hs => (o7 s hs).2.1) w1 s hs
            · exact updN_all (P := fun x => x ≤ 3) (fun s hs => (o7 s hs).2.2.1) w2 s hs
            · exact updN_all (P := fun x => x ≤ 9) (fun s hs => (o7 s hs).2.2.2) w3 s hs
          · rw [tell3 T v1 v2 v3 0 (show 3 ≤ 3 by omega) (by omega), y7, y8, y9, y10]
            exact ⟨rfl, d2, y6, d4, d5, fun s hs => ⟨rT_upd (v := 0) (fun s hs => (d6 s hs).1) s hs, rT_upd (fun s hs => (d6 s hs).2.1) s hs, rT_upd (fun s hs => (d6 s hs).2.2.1) s hs, rT_upd (fun s hs => (d6 s hs).2.2.2) s hs⟩⟩
          · rw [tell3 T v1 v2 v3 0 (show 3 ≤ 3 by omega) (by omega), if_neg (by decide)]
          · rw [tell3 T v1 v2 v3 0 (show 3 ≤ 3 by omega) (by omega), if_neg (by decide), if_neg (by decide)]
          · rw [tell3 T v1 v2 v3 0 (show 3 ≤ 3 by omega) (by omega), if_neg (by decide), if_pos (by decide), nI_1]
          · rw [y11, upd_at, if_neg (by omega), upd_at, if_neg (by omega), upd_at, if_neg (by omega)]; exact fr 3 j hj
          · rw [y11, upd_at, if_neg (by omega), upd_at, if_neg (by omega), upd_at, if_neg (by omega), upd_at, if_pos rfl]
          · rw [y11, upd_at, if_neg (by omega), upd_at, if_neg (by omega), upd_at, if_pos rfl]
          · rw [y11, upd_at, if_neg (by omega), upd_at, if_pos rfl]
          · rw [y11, upd_at, if_pos rfl]
    · -- child 1
      have hk : F_X4_kindOfWord len sg (nI (csN L ch (tB L ch a))) (nI (tB L ch a)) (nI (nxE L ch a)) = some (1 : Int32) := by
        unfold F_X4_kindOfWord
        rw [kf 5 (by omega) (by decide), zc1_e, if_pos (show (0 : Int32) = 0 from rfl), kt, zc1_e, if_neg one0]
      rw [kf 0 (by omega) (by decide), zc1_e, if_pos (show (0 : Int32) = 0 from rfl), kf 1 (by omega) (by decide), zc1_e, if_pos (show (0 : Int32) = 0 from rfl), kf 2 (by omega) (by decide), zc1_e, if_pos (show (0 : Int32) = 0 from rfl), kf 3 (by omega) (by decide), zc1_e, if_pos (show (0 : Int32) = 0 from rfl), kf 4 (by omega) (by decide), zc1_e, if_pos (show (0 : Int32) = 0 from rfl), hk, zc1_e, if_neg (show ¬ (1 : Int32) = -1 from by decide)]
      have hwo := hwd.1 4 (by omega) hwt
      by_cases h5 : tC T = 5
      · have q1 : F_X4_readChild len sg gy gc gk gcy gp ge (nI (csN L ch (tB L ch a))) (nI (tB L ch a)) (nI (nxE L ch a)) (1 : Int32) = some (0, gc, gk, gcy, gp, ge, nI (csN L ch (tB L ch a)), nI (tB L ch a), nI (nxE L ch a)) := by
          unfold F_X4_readChild F_X7_hasRoomForChild
          rw [d3, h5, if_pos (show (5 : Int32) ≤ nI 5 from by decide), zc1_e, if_pos rfl]
        have q2 : F_X9_readsLine mlen (nI rm) (nI (nxE L ch a)) (nI (tB L ch a)) (nI (nxE L ch a)) (nI (tY T)) (nI (tS T)) (nI (tC T)) mt read = some (0, nI rm, nI (nxE L ch a), nI (tB L ch a), nI (nxE L ch a), nI (tY T), nI (tS T), nI (tC T), read) := by
          unfold F_X9_readsLine
          rw [hwo, zc1_e, if_neg (show ¬ nI 4 = (-1 : Int32) from by decide), zj0E]
          try dsimp only
          rw [if_neg (show ¬ nI 4 = (2 : Int32) from by decide), show F_X9_isChildWord (nI 4) = some 1 from m_isChW 4 (by omega), zc1_e, zj0E]
          try dsimp only
          rw [if_neg one0, if_pos (show nI (tC T) = (5 : Int32) from by rw [h5]; rfl)]
        rw [q1, zc9_e, if_pos (show (0 : Int32) = 0 from rfl), q2]
        exact ⟨_, _, _, _, _, _, _, _, _, _, _, _, _, _, _, _, _, _, _, _, _, _, _, _, rfl, rfl, Or.inl ⟨rfl, rfl, _, by omega, rfl⟩⟩
      · obtain ⟨ok, x3, x9, x10, x11, x12, s', b', e', at', pl', en', read', q1, q2, q3⟩ := b_childLine hX (e := nxE L ch a) (rm := rm) (Y := tY T) (C := tC T) (c := 4) (kI := (1 : Int32)) (gk := gk) (gcy := gcy) (gp := gp) (ge := ge) (r1 := nI (csN L ch (tB L ch a))) (r2 := nI (tB L ch a)) (read := upd read (5 * rm) (nI 4)) (by omega) (by omega) hE hrm (by omega) (by omega)
        rw [d1, d3, q1, zc9_e]
        have h55 : nI (tC T) ≠ 5 := by
          show ¬ nI (tC T) = nI 5
          rw [eqN (by omega) (by omega)]; exact h5
        rcases q3 with ⟨rfl, q4, q5⟩ | ⟨rfl, v1, v2, v3, p, w1, w2, w3, y1, y2, y3, y4, y5, y6, y7, y8, y9, y10, y11⟩
        · rw [m_line (c := 4) (by omega) hrm hwo (fun h => by omega) (fun _ => h55) (tk _ _) q2 (Or.inl rfl), if_pos (show (0 : Int32) = 0 from rfl)]
          exact ⟨_, _, _, _, _, _, _, _, _, _, _, _, _, _, _, _, _, _, _, _, _, _, _, _, rfl, rfl, Or.inl ⟨rfl, q4, q5⟩⟩
        · rw [m_line (c := 4) (by omega) hrm hwo (fun h => by omega) (fun _ => h55) (tk _ _) q2 (Or.inr rfl), if_neg one0, if_neg one0]
          refine ⟨_, _, _, _, _, _, _, _, _, _, _, _, _, _, _, _, _, _, _, _, _, _, _, _, rfl, rfl, Or.inr ⟨rfl, tellN T 4 v1 v2 v3 0, p, ?_, y1, ?_, y2, y3, y4, y5, rfl, ?_, ?_, ?_, fun j hj => ?_, 4, v1, v2, v3, 0, by omega, ?_, rfl, fun h => by omega, fun h => by omega, fun h => by omega, fun _ => ⟨?_, ?_, ?_, by omega⟩⟩⟩
          · rw [tell3 T v1 v2 v3 0 (show 3 ≤ 4 by omega) (by omega)]
            refine ⟨o1, o2, o3, by show tC T + 1 ≤ 5; omega, o5, o6, fun s hs => ⟨?_, ?_, ?_, ?_⟩⟩
            · exact updN_all (P := fun x => x ≤ 3) (fun s hs => (o7 s hs).1) (by omega) s hs
            · exact updN_all (P := fun x => x < tY T) (fun s hs => (o7 s hs).2.1) w1 s hs
            · exact updN_all (P := fun x => x ≤ 3) (fun s hs => (o7 s hs).2.2.1) w2 s hs
            · exact updN_all (P := fun x => x ≤ 9) (fun s hs => (o7 s hs).2.2.2) w3 s hs
          · rw [tell3 T v1 v2 v3 0 (show 3 ≤ 4 by omega) (by omega), y7, y8, y9, y10]
            exact ⟨rfl, d2, y6, d4, d5, fun s hs => ⟨rT_upd (v := 1) (fun s hs => (d6 s hs).1) s hs, rT_upd (fun s hs => (d6 s hs).2.1) s hs, rT_upd (fun s hs => (d6 s hs).2.2.1) s hs, rT_upd (fun s hs => (d6 s hs).2.2.2) s hs⟩⟩
          · rw [tell3 T v1 v2 v3 0 (show 3 ≤ 4 by omega) (by omega), if_neg (by decide)]
          · rw [tell3 T v1 v2 v3 0 (show 3 ≤ 4 by omega) (by omega), if_neg (by decide), if_neg (by decide)]
          · rw [tell3 T v1 v2 v3 0 (show 3 ≤ 4 by omega) (by omega), if_neg (by decide), if_pos (by decide), nI_1]
          · rw [y11, upd_at, if_neg (by omega), upd_at, if_neg (by omega), upd_at, if_neg (by omega)]; exact fr 4 j hj
          · rw [y11, upd_at, if_neg (by omega), upd_at, if_neg (by omega), upd_at, if_neg (by omega), upd_at, if_pos rfl]
          · rw [y11, upd_at, if_neg (by omega), upd_at, if_neg (by omega), upd_at, if_pos rfl]
          · rw [y11, upd_at, if_neg (by omega), upd_at, if_pos rfl]
          · rw [y11, upd_at, if_pos rfl]
    · -- child 2
      have hk : F_X4_kindOfWord len sg (nI (csN L ch (tB L ch a))) (nI (tB L ch a)) (nI (nxE L ch a)) = some (2 : Int32) := by
        unfold F_X4_kindOfWord
        rw [kf 5 (by omega) (by decide), zc1_e, if_pos (show (0 : Int32) = 0 from rfl), kf 6 (by omega) (by decide), zc1_e, if_pos (show (0 : Int32) = 0 from rfl), kt, zc1_e, if_neg one0]
      rw [kf 0 (by omega) (by decide), zc1_e, if_pos (show (0 : Int32) = 0 from rfl), kf 1 (by omega) (by decide), zc1_e, if_pos (show (0 : Int32) = 0 from rfl), kf 2 (by omega) (by decide), zc1_e, if_pos (show (0 : Int32) = 0 from rfl), kf 3 (by omega) (by decide), zc1_e, if_pos (show (0 : Int32) = 0 from rfl), kf 4 (by omega) (by decide), zc1_e, if_pos (show (0 : Int32) = 0 from rfl), hk, zc1_e, if_neg (show ¬ (2 : Int32) = -1 from by decide)]
      have hwo := hwd.1 5 (by omega) hwt
      by_cases h5 : tC T = 5
      · have q1 : F_X4_readChild len sg gy gc gk gcy gp ge (nI (csN L ch (tB L ch a))) (nI (tB L ch a)) (nI (nxE L ch a)) (2 : Int32) = some (0, gc, gk, gcy, gp, ge, nI (csN L ch (tB L ch a)), nI (tB L ch a), nI (nxE L ch a)) := by
          unfold F_X4_readChild F_X7_hasRoomForChild
          rw [d3, h5, if_pos (show (5 : Int32) ≤ nI 5 from by decide), zc1_e, if_pos rfl]
        have q2 : F_X9_readsLine mlen (nI rm) (nI (nxE L ch a)) (nI (tB L ch a)) (nI (nxE L ch a)) (nI (tY T)) (nI (tS T)) (nI (tC T)) mt read = some (0, nI rm, nI (nxE L ch a), nI (tB L ch a), nI (nxE L ch a), nI (tY T), nI (tS T), nI (tC T), read) := by
          unfold F_X9_readsLine
          rw [hwo, zc1_e, if_neg (show ¬ nI 5 = (-1 : Int32) from by decide), zj0E]
          try dsimp only
          rw [if_neg (show ¬ nI 5 = (2 : Int32) from by decide), show F_X9_isChildWord (nI 5) = some 1 from m_isChW 5 (by omega), zc1_e, zj0E]
          try dsimp only
          rw [if_neg one0, if_pos (show nI (tC T) = (5 : Int32) from by rw [h5]; rfl)]
        rw [q1, zc9_e, if_pos (show (0 : Int32) = 0 from rfl), q2]
        exact ⟨_, _, _, _, _, _, _, _, _, _, _, _, _, _, _, _, _, _, _, _, _, _, _, _, rfl, rfl, Or.inl ⟨rfl, rfl, _, by omega, rfl⟩⟩
      · obtain ⟨ok, x3, x9, x10, x11, x12, s', b', e', at', pl', en', read', q1, q2, q3⟩ := b_childLine hX (e := nxE L ch a) (rm := rm) (Y := tY T) (C := tC T) (c := 5) (kI := (2 : Int32)) (gk := gk) (gcy := gcy) (gp := gp) (ge := ge) (r1 := nI (csN L ch (tB L ch a))) (r2 := nI (tB L ch a)) (read := upd read (5 * rm) (nI 5)) (by omega) (by omega) hE hrm (by omega) (by omega)
        rw [d1, d3, q1, zc9_e]
        have h55 : nI (tC T) ≠ 5 := by
          show ¬ nI (tC T) = nI 5
          rw [eqN (by omega) (by omega)]; exact h5
        rcases q3 with ⟨rfl, q4, q5⟩ | ⟨rfl, v1, v2, v3, p, w1, w2, w3, y1, y2, y3, y4, y5, y6, y7, y8, y9, y10, y11⟩
        · rw [m_line (c := 5) (by omega) hrm hwo (fun h => by omega) (fun _ => h55) (tk _ _) q2 (Or.inl rfl), if_pos (show (0 : Int32) = 0 from rfl)]
          exact ⟨_, _, _, _, _, _, _, _, _, _, _, _, _, _, _, _, _, _, _, _, _, _, _, _, rfl, rfl, Or.inl ⟨rfl, q4, q5⟩⟩
        · rw [m_line (c := 5) (by omega) hrm hwo (fun h => by omega) (fun _ => h55) (tk _ _) q2 (Or.inr rfl), if_neg one0, if_neg one0]
          refine ⟨_, _, _, _, _, _, _, _, _, _, _, _, _, _, _, _, _, _, _, _, _, _, _, _, rfl, rfl, Or.inr ⟨rfl, tellN T 5 v1 v2 v3 0, p, ?_, y1, ?_, y2, y3, y4, y5, rfl, ?_, ?_, ?_, fun j hj => ?_, 5, v1, v2, v3, 0, by omega, ?_, rfl, fun h => by omega, fun h => by omega, fun h => by omega, fun _ => ⟨?_, ?_, ?_, by omega⟩⟩⟩
          · rw [tell3 T v1 v2 v3 0 (show 3 ≤ 5 by omega) (by omega)]
            refine ⟨o1, o2, o3, by show tC T + 1 ≤ 5; omega, o5, o6, fun s hs => ⟨?_, ?_, ?_, ?_⟩⟩
            · exact updN_all (P := fun x => x ≤ 3) (fun s hs => (o7 s hs).1) (by omega) s hs
            · exact updN_all (P := fun x => x < tY T) (fun s hs => (o7 s hs).2.1) w1 s hs
            · exact updN_all (P := fun x => x ≤ 3) (fun s hs => (o7 s hs).2.2.1) w2 s hs
            · exact updN_all (P := fun x => x ≤ 9) (fun s hs => (o7 s hs).2.2.2) w3 s hs
          · rw [tell3 T v1 v2 v3 0 (show 3 ≤ 5 by omega) (by omega), y7, y8, y9, y10]
            exact ⟨rfl, d2, y6, d4, d5, fun s hs => ⟨rT_upd (v := 2) (fun s hs => (d6 s hs).1) s hs, rT_upd (fun s hs => (d6 s hs).2.1) s hs, rT_upd (fun s hs => (d6 s hs).2.2.1) s hs, rT_upd (fun s hs => (d6 s hs).2.2.2) s hs⟩⟩
          · rw [tell3 T v1 v2 v3 0 (show 3 ≤ 5 by omega) (by omega), if_neg (by decide)]
          · rw [tell3 T v1 v2 v3 0 (show 3 ≤ 5 by omega) (by omega), if_neg (by decide), if_neg (by decide)]
          · rw [tell3 T v1 v2 v3 0 (show 3 ≤ 5 by omega) (by omega), if_neg (by decide), if_pos (by decide), nI_1]
          · rw [y11, upd_at, if_neg (by omega), upd_at, if_neg (by omega), upd_at, if_neg (by omega)]; exact fr 5 j hj
          · rw [y11, upd_at, if_neg (by omega), upd_at, if_neg (by omega), upd_at, if_neg (by omega), upd_at, if_pos rfl]
          · rw [y11, upd_at, if_neg (by omega), upd_at, if_neg (by omega), upd_at, if_pos rfl]
          · rw [y11, upd_at, if_neg (by omega), upd_at, if_pos rfl]
          · rw [y11, upd_at, if_pos rfl]
    · -- child 3
      have hk : F_X4_kindOfWord len sg (nI (csN L ch (tB L ch a))) (nI (tB L ch a)) (nI (nxE L ch a)) = some (3 : Int32) := by
        unfold F_X4_kindOfWord
        rw [kf 5 (by omega) (by decide), zc1_e, if_pos (show (0 : Int32) = 0 from rfl), kf 6 (by omega) (by decide), zc1_e, if_pos (show (0 : Int32) = 0 from rfl), kf 7 (by omega) (by decide), zc1_e, if_pos (show (0 : Int32) = 0 from rfl), kt, zc1_e, if_neg one0]
      rw [kf 0 (by omega) (by decide), zc1_e, if_pos (show (0 : Int32) = 0 from rfl), kf 1 (by omega) (by decide), zc1_e, if_pos (show (0 : Int32) = 0 from rfl), kf 2 (by omega) (by decide), zc1_e, if_pos (show (0 : Int32) = 0 from rfl), kf 3 (by omega) (by decide), zc1_e, if_pos (show (0 : Int32) = 0 from rfl), kf 4 (by omega) (by decide), zc1_e, if_pos (show (0 : Int32) = 0 from rfl), hk, zc1_e, if_neg (show ¬ (3 : Int32) = -1 from by decide)]
      have hwo := hwd.1 6 (by omega) hwt
      by_cases h5 : tC T = 5
      · have q1 : F_X4_readChild len sg gy gc gk gcy gp ge (nI (csN L ch (tB L ch a))) (nI (tB L ch a)) (nI (nxE L ch a)) (3 : Int32) = some (0, gc, gk, gcy, gp, ge, nI (csN L ch (tB L ch a)), nI (tB L ch a), nI (nxE L ch a)) := by
          unfold F_X4_readChild F_X7_hasRoomForChild
          rw [d3, h5, if_pos (show (5 : Int32) ≤ nI 5 from by decide), zc1_e, if_pos rfl]
        have q2 : F_X9_readsLine mlen (nI rm) (nI (nxE L ch a)) (nI (tB L ch a)) (nI (nxE L ch a)) (nI (tY T)) (nI (tS T)) (nI (tC T)) mt read = some (0, nI rm, nI (nxE L ch a), nI (tB L ch a), nI (nxE L ch a), nI (tY T), nI (tS T), nI (tC T), read) := by
          unfold F_X9_readsLine
          rw [hwo, zc1_e, if_neg (show ¬ nI 6 = (-1 : Int32) from by decide), zj0E]
          try dsimp only
          rw [if_neg (show ¬ nI 6 = (2 : Int32) from by decide), show F_X9_isChildWord (nI 6) = some 1 from m_isChW 6 (by omega), zc1_e, zj0E]
          try dsimp only
          rw [if_neg one0, if_pos (show nI (tC T) = (5 : Int32) from by rw [h5]; rfl)]
        rw [q1, zc9_e, if_pos (show (0 : Int32) = 0 from rfl), q2]
        exact ⟨_, _, _, _, _, _, _, _, _, _, _, _, _, _, _, _, _, _, _, _, _, _, _, _, rfl, rfl, Or.inl ⟨rfl, rfl, _, by omega, rfl⟩⟩
      · obtain ⟨ok, x3, x9, x10, x11, x12, s', b', e', at', pl', en', read', q1, q2, q3⟩ := b_childLine hX (e := nxE L ch a) (rm := rm) (Y := tY T) (C := tC T) (c := 6) (kI := (3 : Int32)) (gk := gk) (gcy := gcy) (gp := gp) (ge := ge) (r1 := nI (csN L ch (tB L ch a))) (r2 := nI (tB L ch a)) (read := upd read (5 * rm) (nI 6)) (by omega) (by omega) hE hrm (by omega) (by omega)
        rw [d1, d3, q1, zc9_e]
        have h55 : nI (tC T) ≠ 5 := by
          show ¬ nI (tC T) = nI 5
          rw [eqN (by omega) (by omega)]; exact h5
        rcases q3 with ⟨rfl, q4, q5⟩ | ⟨rfl, v1, v2, v3, p, w1, w2, w3, y1, y2, y3, y4, y5, y6, y7, y8, y9, y10, y11⟩
        · rw [m_line (c := 6) (by omega) hrm hwo (fun h => by omega) (fun _ => h55) (tk _ _) q2 (Or.inl rfl), if_pos (show (0 : Int32) = 0 from rfl)]
          exact ⟨_, _, _, _, _, _, _, _, _, _, _, _, _, _, _, _, _, _, _, _, _, _, _, _, rfl, rfl, Or.inl ⟨rfl, q4, q5⟩⟩
        · rw [m_line (c := 6) (by omega) hrm hwo (fun h => by omega) (fun _ => h55) (tk _ _) q2 (Or.inr rfl), if_neg one0, if_neg one0]
          refine ⟨_, _, _, _, _, _, _, _, _, _, _, _, _, _, _, _, _, _, _, _, _, _, _, _, rfl, rfl, Or.inr ⟨rfl, tellN T 6 v1 v2 v3 0, p, ?_, y1, ?_, y2, y3, y4, y5, rfl, ?_, ?_, ?_, fun j hj => ?_, 6, v1, v2, v3, 0, by omega, ?_, rfl, fun h => by omega, fun h => by omega, fun h => by omega, fun _ => ⟨?_, ?_, ?_, by omega⟩⟩⟩
          · rw [tell3 T v1 v2 v3 0 (show 3 ≤ 6 by omega) (by omega)]
            refine ⟨o1, o2, o3, by show tC T + 1 ≤ 5; omega, o5, o6, fun s hs => ⟨?_, ?_, ?_, ?_⟩⟩
            · exact updN_all (P := fun x => x ≤ 3) (fun s hs => (o7 s hs).1) (by omega) s hs
            · exact updN_all (P := fun x => x < tY T) (fun s hs => (o7 s hs).2.1) w1 s hs
            · exact updN_all (P := fun x => x ≤ 3) (fun s hs => (o7 s hs).2.2.1) w2 s hs
            · exact updN_all (P := fun x => x ≤ 9) (fun s hs => (o7 s hs).2.2.2) w3 s hs
          · rw [tell3 T v1 v2 v3 0 (show 3 ≤ 6 by omega) (by omega), y7, y8, y9, y10]
            exact ⟨rfl, d2, y6, d4, d5, fun s hs => ⟨rT_upd (v := 3) (fun s hs => (d6 s hs).1) s hs, rT_upd (fun s hs => (d6 s hs).2.1) s hs, rT_upd (fun s hs => (d6 s hs).2.2.1) s hs, rT_upd (fun s hs => (d6 s hs).2.2.2) s hs⟩⟩
          · rw [tell3 T v1 v2 v3 0 (show 3 ≤ 6 by omega) (by omega), if_neg (by decide)]
          · rw [tell3 T v1 v2 v3 0 (show 3 ≤ 6 by omega) (by omega), if_neg (by decide), if_neg (by decide)]
          · rw [tell3 T v1 v2 v3 0 (show 3 ≤ 6 by omega) (by omega), if_neg (by decide), if_pos (by decide), nI_1]
          · rw [y11, upd_at, if_neg (by omega), upd_at, if_neg (by omega), upd_at, if_neg (by omega)]; exact fr 6 j hj
          · rw [y11, upd_at, if_neg (by omega), upd_at, if_neg (by omega), upd_at, if_neg (by omega), upd_at, if_pos rfl]
          · rw [y11, upd_at, if_neg (by omega), upd_at, if_neg (by omega), upd_at, if_pos rfl]
          · rw [y11, upd_at, if_neg (by omega), upd_at, if_pos rfl]
          · rw [y11, upd_at, if_pos rfl]
  · have hno : ∀ w, w < 9 → isW L ch (tB L ch a) w = false := fun w hw => Bool.eq_false_iff.mpr (fun h => hany ⟨w, hw, h⟩)
    have kf : ∀ u, u < 9 → F_X4_isWord len sg (nI (csN L ch (tB L ch a))) (nI (tB L ch a)) (nI (nxE L ch a)) u = some 0 := fun u hu => by
      rw [kw u hu, hno u hu]; rfl
    have hk : F_X4_kindOfWord len sg (nI (csN L ch (tB L ch a))) (nI (tB L ch a)) (nI (nxE L ch a)) = some (-1 : Int32) := by
      unfold F_X4_kindOfWord
      rw [kf 5 (by omega), zc1_e, if_pos (show (0 : Int32) = 0 from rfl), kf 6 (by omega), zc1_e, if_pos (show (0 : Int32) = 0 from rfl), kf 7 (by omega), zc1_e, if_pos (show (0 : Int32) = 0 from rfl), kf 8 (by omega), zc1_e, if_pos (show (0 : Int32) = 0 from rfl)]
    rw [kf 0 (by omega), zc1_e, if_pos (show (0 : Int32) = 0 from rfl), kf 1 (by omega), zc1_e, if_pos (show (0 : Int32) = 0 from rfl), kf 2 (by omega), zc1_e, if_pos (show (0 : Int32) = 0 from rfl), kf 3 (by omega), zc1_e, if_pos (show (0 : Int32) = 0 from rfl), kf 4 (by omega), zc1_e, if_pos (show (0 : Int32) = 0 from rfl), hk, zc1_e, if_pos (show (-1 : Int32) = -1 from rfl)]
    have q2 : F_X9_readsLine mlen (nI rm) (nI (nxE L ch a)) (nI (tB L ch a)) (nI (nxE L ch a)) (nI (tY T)) (nI (tS T)) (nI (tC T)) mt read = some (0, nI rm, nI (nxE L ch a), nI (tB L ch a), nI (nxE L ch a), nI (tY T), nI (tS T), nI (tC T), read) := by
      unfold F_X9_readsLine
      rw [hwd.2 hno, zc1_e, if_pos (show (-1 : Int32) = -1 from rfl)]
    rw [q2]
    exact ⟨_, _, _, _, _, _, _, _, _, _, _, _, _, _, _, _, _, _, _, _, _, _, _, _, rfl, rfl, Or.inl ⟨rfl, rfl, _, by omega, rfl⟩⟩
end
