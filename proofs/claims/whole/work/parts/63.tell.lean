/-! ===== lines told to the reference ===== -/
def zR (row : Nat → Int32) : Prop := row 82 = 0 ∧ ∀ j, 88 ≤ j → j ≤ 94 → row j = 0
theorem m_clear {a b c v : Int32} {td : Nat → Int32} : ∃ g, F_X9_clear a b c td v = some (v, 0, 0, g) ∧ ∀ k, k < 12 → g k = 0 := by
  have key : ∃ r, F_X9_clear a b c td v = some r ∧ (r.1 = v ∧ r.2.1 = 0 ∧ r.2.2.1 = 0 ∧ ∀ k, k < 12 → r.2.2.2 k = 0) := by
    unfold F_X9_clear
    refine zl2_inv (fun i x h => x = nI i ∧ ∀ k, k < i → h k = 0) 12 (fun i x h hi hI => ?_) (fun x h hI k => ?_) 12 0 FU _ _ rfl (by omega) (by unfold FU; omega) ⟨rfl, fun k hk => by omega⟩
    · obtain ⟨rfl, i2⟩ := hI
      refine ⟨nI (i + 1), upd h i 0, ⟨rfl, fun k hk => ?_⟩, fun k => ?_⟩
      · rw [upd_at]
        by_cases e : k = i
        · rw [if_pos e]
        · rw [if_neg e]; exact i2 k (by omega)
      · rw [if_neg (show ¬ (12 : Int32) ≤ nI i from by rw [show (12 : Int32) = nI 12 from rfl, leN (by omega) (by omega)]; omega), wrN (by omega) (by omega), nI_clamp (by omega), bdE, nI_1]
    · obtain ⟨rfl, i2⟩ := hI
      rw [if_pos (show (12 : Int32) ≤ nI 12 from by decide)]
      exact ⟨_, rfl, rfl, rfl, rfl, i2⟩
  obtain ⟨⟨r1, r2, r3, r4⟩, h1, h2, h3, h4, h5⟩ := key
  refine ⟨r4, ?_, h5⟩
  rw [h1, show r1 = v from h2, show r2 = 0 from h3, show r3 = 0 from h4]
theorem m_tellChild {a b cm : Int32} {row rdA td sp kd pc er : Nat → Int32} {k c : Nat} (hk : k < 12) (h3 : 3 ≤ c) (h6 : c ≤ 6) (hc : rdA (5 * k) = nI c) : F_X9_tell a b cm row rdA td sp kd pc er (nI (5 * k)) = wr 5 cm (upd kd (cm).toNatClampNeg (nI (c - 3))) (fun g36 => wr 95 ((83 : Int32) + cm) (upd row (((83 : Int32) + cm)).toNatClampNeg (rdA (5 * k + 1))) (fun g38 => wr 5 cm (upd pc (cm).toNatClampNeg (rdA (5 * k + 2))) (fun g42 => wr 5 cm (upd er (cm).toNatClampNeg (rdA (5 * k + 3))) (fun g46 => some (a, b, cm + (1 : Int32), g38, td, sp, g36, g42, g46))))) := by
  have e2 : nI (5 * k) + (2 : Int32) = nI (5 * k + 2) := by rw [show (2 : Int32) = nI 2 from rfl, nI_add]
  have e3 : nI (5 * k) + (3 : Int32) = nI (5 * k + 3) := by rw [show (3 : Int32) = nI 3 from rfl, nI_add]
  have es : nI c - (3 : Int32) = nI (c - 3) := by rw [show (3 : Int32) = nI 3 from rfl, pk_sub h3]
  have rda : ∀ {β : Type} (q : Int32 → Option β), rd 60 rdA (nI (5 * k)) q = q (nI c) := fun q => by rw [rdN (by omega) (by omega), hc]
  have rd1 : ∀ {β : Type} (q : Int32 → Option β), rd 60 rdA (nI (5 * k + 1)) q = q (rdA (5 * k + 1)) := fun q => by rw [rdN (by omega) (by omega)]
  have rdb : ∀ {β : Type} (q : Int32 → Option β), rd 60 rdA (nI (5 * k + 2)) q = q (rdA (5 * k + 2)) := fun q => by rw [rdN (by omega) (by omega)]
  have rdc : ∀ {β : Type} (q : Int32 → Option β), rd 60 rdA (nI (5 * k + 3)) q = q (rdA (5 * k + 3)) := fun q => by rw [rdN (by omega) (by omega)]
  unfold F_X9_tell
  rw [nI_1, e2, e3, rd1, rda]
  rcases (show c = 3 ∨ c = 4 ∨ c = 5 ∨ c = 6 by omega) with rfl | rfl | rfl | rfl
  · rw [if_neg (show ¬ nI 3 = (0 : Int32) from by decide), if_neg (show ¬ nI 3 = (1 : Int32) from by decide), if_neg (show ¬ nI 3 = (2 : Int32) from by decide), if_pos (show nI 3 = (3 : Int32) from rfl), rda, bdE, es]
    simp only [rdb, rdc, bdE]
  · rw [if_neg (show ¬ nI 4 = (0 : Int32) from by decide), if_neg (show ¬ nI 4 = (1 : Int32) from by decide), if_neg (show ¬ nI 4 = (2 : Int32) from by decide), if_neg (show ¬ nI 4 = (3 : Int32) from by decide), if_pos (show nI 4 = (4 : Int32) from rfl), rda, bdE, es]
    simp only [rdb, rdc, bdE]
  · rw [if_neg (show ¬ nI 5 = (0 : Int32) from by decide), if_neg (show ¬ nI 5 = (1 : Int32) from by decide), if_neg (show ¬ nI 5 = (2 : Int32) from by decide), if_neg (show ¬ nI 5 = (3 : Int32) from by decide), if_neg (show ¬ nI 5 = (4 : Int32) from by decide), if_pos (show nI 5 = (5 : Int32) from rfl), rda, bdE, es]
    simp only [rdb, rdc, bdE]
  · rw [if_neg (show ¬ nI 6 = (0 : Int32) from by decide), if_neg (show ¬ nI 6 = (1 : Int32) from by decide), if_neg (show ¬ nI 6 = (2 : Int32) from by decide), if_neg (show ¬ nI 6 = (3 : Int32) from by decide), if_neg (show ¬ nI 6 = (4 : Int32) from by decide), if_neg (show ¬ nI 6 = (5 : Int32) from by decide), if_pos (show nI 6 = (6 : Int32) from rfl), rda, bdE, es]
    simp only [rdb, rdc, bdE]
theorem m_tell {T T' : TA} (hT : okT T) {my ms mc : Int32} {row rdA td sp kd pc er : Nat → Int32} {k : Nat} (hk : k < 12) (h : mT my ms mc row td sp kd pc er T) (hz : zR row) (hl : lnK rdA k T T') :
    ∃ my' ms' mc' row' td' sp' kd' pc' er', F_X9_tell my ms mc row rdA td sp kd pc er (nI (5 * k)) = some (my', ms', mc', row', td', sp', kd', pc', er') ∧ mT my' ms' mc' row' td' sp' kd' pc' er' T' ∧ zR row' ∧ ∀ j, j < 76 → row' j = row j := by
  obtain ⟨w1, w2, w3, w4, w5, w6⟩ := h
  have a3 : tS T ≤ 6 := hT.2.2.1
  have a4 : tC T ≤ 5 := hT.2.2.2.1
  obtain ⟨c, v1, v2, v3, v4, c8, hc, rfl, l0', l1', l2', l3'⟩ := hl
  have e2 : nI (5 * k) + (2 : Int32) = nI (5 * k + 2) := by rw [show (2 : Int32) = nI 2 from rfl, nI_add]
  have e3 : nI (5 * k) + (3 : Int32) = nI (5 * k + 3) := by rw [show (3 : Int32) = nI 3 from rfl, nI_add]
  have e4 : nI (5 * k) + (4 : Int32) = nI (5 * k + 4) := by rw [show (4 : Int32) = nI 4 from rfl, nI_add]
  have rda : ∀ {β : Type} (q : Int32 → Option β), rd 60 rdA (nI (5 * k)) q = q (nI c) := fun q => by rw [rdN (by omega) (by omega), hc]
  have rd1 : ∀ {β : Type} (q : Int32 → Option β), rd 60 rdA (nI (5 * k + 1)) q = q (rdA (5 * k + 1)) := fun q => by rw [rdN (by omega) (by omega)]
  have rdb : ∀ {β : Type} (q : Int32 → Option β), rd 60 rdA (nI (5 * k + 2)) q = q (rdA (5 * k + 2)) := fun q => by rw [rdN (by omega) (by omega)]
  have rdc : ∀ {β : Type} (q : Int32 → Option β), rd 60 rdA (nI (5 * k + 3)) q = q (rdA (5 * k + 3)) := fun q => by rw [rdN (by omega) (by omega)]
  have rdd : ∀ {β : Type} (q : Int32 → Option β), rd 60 rdA (nI (5 * k + 4)) q = q (rdA (5 * k + 4)) := fun q => by rw [rdN (by omega) (by omega)]
  by_cases hch : 3 ≤ c ∧ c ≤ 6
  · obtain ⟨r1, r2, r3, r4⟩ := l3' hch
    rw [m_tellChild hk hch.1 hch.2 hc, w3, r1, r2, r3, wrN (by omega) (by omega), show (83 : Int32) = nI 83 from rfl, nI_add, wrN (by omega) (by omega), wrN (by omega) (by omega), wrN (by omega) (by omega), nI_clamp (by omega), nI_clamp (by omega), nI_1]
    refine ⟨_, _, _, _, _, _, _, _, _, rfl, ?_, ?_, fun j hj => by rw [upd_at, if_neg (by omega)]⟩
    · rw [tell3 T v1 v2 v3 v4 hch.1 hch.2]
      refine ⟨w1, w2, rfl, w4, fun s hs => ⟨(w5 s hs).1, ?_, (w5 s hs).2.2⟩, fun j hj => ⟨rT_upd (fun s hs => (w6 s hs).1) j hj, ?_, rT_upd (fun s hs => (w6 s hs).2.2.1) j hj, rT_upd (fun s hs => (w6 s hs).2.2.2) j hj⟩⟩
      · have hs : s < tS T := hs
        rw [upd_at, if_neg (by omega)]; exact (w5 s hs).2.1
      · have hj : j < tC T + 1 := hj
        show upd row (83 + tC T) (nI v1) (83 + j) = nI (updN (tCy T) (tC T) v1 j)
        rw [upd_at]
        unfold updN
        by_cases e : j = tC T
        · rw [if_pos (by omega), if_pos e]
        · rw [if_neg (by omega), if_neg e]; exact (w6 j (by omega)).2.1
    · exact ⟨by rw [upd_at, if_neg (by omega)]; exact hz.1, fun j j1 j2 => by rw [upd_at, if_neg (by omega)]; exact hz.2 j j1 j2⟩
  · unfold F_X9_tell
    rw [nI_1, rd1, rda]
    rcases (show c = 0 ∨ c = 1 ∨ c = 2 ∨ c = 7 ∨ c = 8 by omega) with rfl | rfl | rfl | rfl | rfl
    · obtain ⟨r1, r2⟩ := l0' rfl
      obtain ⟨g, g1, g2⟩ := m_clear (a := my) (b := ms) (c := mc) (v := rdA (5 * k + 1)) (td := td)
      rw [if_pos (show nI 0 = (0 : Int32) from rfl), g1, zc4_e, r1]
      refine ⟨_, _, _, _, _, _, _, _, _, rfl, ?_, hz, fun _ _ => rfl⟩
      rw [tell0]
      exact ⟨rfl, rfl, rfl, fun h hh => g2 h hh, fun s hs => absurd hs (by show ¬ s < 0; omega), fun s hs => absurd hs (by show ¬ s < 0; omega)⟩
    · obtain ⟨r1, r2, r3⟩ := l1' rfl
      rw [if_neg (show ¬ nI 1 = (0 : Int32) from by decide), if_pos (show nI 1 = (1 : Int32) from rfl), e2, rdb, r1, r2, wrN (by omega) (by omega), nI_clamp (by omega)]
      refine ⟨_, _, _, _, _, _, _, _, _, rfl, ?_, hz, fun _ _ => rfl⟩
      rw [tell1]
      refine ⟨w1, w2, w3, fun h hh => ?_, w5, w6⟩
      show upd td v1 (nI v2) h = nI (updN (tTd T) v1 v2 h)
      rw [upd_at]
      unfold updN
      by_cases e : h = v1
      · rw [if_pos e, if_pos e]
      · rw [if_neg e, if_neg e]; exact w4 h hh
    · obtain ⟨r1, r2, r3, r4, r5⟩ := l2' rfl
      have m1 : nI (3 * tS T) + (2 : Int32) = nI (3 * tS T + 2) := by rw [show (2 : Int32) = nI 2 from rfl, nI_add]
      rw [if_neg (show ¬ nI 2 = (0 : Int32) from by decide), if_neg (show ¬ nI 2 = (1 : Int32) from by decide), if_pos (show nI 2 = (2 : Int32) from rfl), w2, show (3 : Int32) * nI (tS T) = nI (3 * tS T) from by rw [show (3 : Int32) = nI 3 from rfl, pk_mul], wrN (by omega) (by omega), e2, rdb, show (76 : Int32) + nI (tS T) = nI (76 + tS T) from by rw [show (76 : Int32) = nI 76 from rfl, nI_add], wrN (by omega) (by omega), e3, rdc, nI_1 (3 * tS T), wrN (by omega) (by omega), e4, rdd, m1, wrN (by omega) (by omega), nI_clamp (by omega), nI_clamp (by omega), nI_clamp (by omega), nI_clamp (by omega), bdE, nI_1, r1, r2, r3, r4]
      refine ⟨_, _, _, _, _, _, _, _, _, rfl, ?_, ⟨?_, fun j j1 j2 => ?_⟩, fun j hj => by rw [upd_at, if_neg (by omega)]⟩
      · rw [tell2]
        refine ⟨w1, rfl, w3, w4, fun s hs => ?_, fun j hj => ⟨(w6 j hj).1, ?_, (w6 j hj).2.2⟩⟩
        · have hs : s < tS T + 1 := hs
          show upd (upd (upd sp (3 * tS T) (nI v1)) (3 * tS T + 1) (nI v3)) (3 * tS T + 2) (nI v4) (3 * s) = nI (updN (tSy T) (tS T) v1 s) ∧ upd row (76 + tS T) (nI v2) (76 + s) = nI (updN (tSz T) (tS T) v2 s) ∧ upd (upd (upd sp (3 * tS T) (nI v1)) (3 * tS T + 1) (nI v3)) (3 * tS T + 2) (nI v4) (3 * s + 1) = nI (updN (tGr T) (tS T) v3 s) ∧ upd (upd (upd sp (3 * tS T) (nI v1)) (3 * tS T + 1) (nI v3)) (3 * tS T + 2) (nI v4) (3 * s + 2) = nI (updN (tLv T) (tS T) v4 s)
          unfold updN
          by_cases e : s = tS T
          · subst e
            refine ⟨?_, ?_, ?_, ?_⟩
            · rw [upd_at, if_neg (by omega), upd_at, if_neg (by omega), upd_at, if_pos rfl, if_pos rfl]
            · rw [upd_at, if_pos rfl, if_pos rfl]
            · rw [upd_at, if_neg (by omega), upd_at, if_pos rfl, if_pos rfl]
            · rw [upd_at, if_pos rfl, if_pos rfl]
          · obtain ⟨z1, z2, z3, z4⟩ := w5 s (by omega)
            refine ⟨?_, ?_, ?_, ?_⟩
            · rw [upd_at, if_neg (by omega), upd_at, if_neg (by omega), upd_at, if_neg (by omega), if_neg e]; exact z1
            · rw [upd_at, if_neg (by omega), if_neg e]; exact z2
            · rw [upd_at, if_neg (by omega), upd_at, if_neg (by omega), upd_at, if_neg (by omega), if_neg e]; exact z3
            · rw [upd_at, if_neg (by omega), upd_at, if_neg (by omega), upd_at, if_neg (by omega), if_neg e]; exact z4
        · have hj : j < tC T := hj
          rw [upd_at, if_neg (by omega)]; exact (w6 j hj).2.1
      · rw [upd_at, if_neg (by omega)]; exact hz.1
      · rw [upd_at, if_neg (by omega)]; exact hz.2 j j1 j2
    · rw [if_neg (show ¬ nI 7 = (0 : Int32) from by decide), if_neg (show ¬ nI 7 = (1 : Int32) from by decide), if_neg (show ¬ nI 7 = (2 : Int32) from by decide), if_neg (show ¬ nI 7 = (3 : Int32) from by decide), if_neg (show ¬ nI 7 = (4 : Int32) from by decide), if_neg (show ¬ nI 7 = (5 : Int32) from by decide), if_neg (show ¬ nI 7 = (6 : Int32) from by decide), if_pos (show nI 7 = (7 : Int32) from rfl)]
      refine ⟨_, _, _, _, _, _, _, _, _, rfl, ?_, hz, fun _ _ => rfl⟩
      rw [tell7]
      exact ⟨w1, rfl, w3, w4, fun s hs => absurd hs (by show ¬ s < 0; omega), w6⟩
    · rw [if_neg (show ¬ nI 8 = (0 : Int32) from by decide), if_neg (show ¬ nI 8 = (1 : Int32) from by decide), if_neg (show ¬ nI 8 = (2 : Int32) from by decide), if_neg (show ¬ nI 8 = (3 : Int32) from by decide), if_neg (show ¬ nI 8 = (4 : Int32) from by decide), if_neg (show ¬ nI 8 = (5 : Int32) from by decide), if_neg (show ¬ nI 8 = (6 : Int32) from by decide), if_neg (show ¬ nI 8 = (7 : Int32) from by decide), if_pos (show nI 8 = (8 : Int32) from rfl)]
      refine ⟨_, _, _, _, _, _, _, _, _, rfl, ?_, hz, fun _ _ => rfl⟩
      rw [tell8]
      exact ⟨w1, w2, rfl, w4, w5, fun s hs => absurd hs (by show ¬ s < 0; omega)⟩
theorem lnC_seq {rdA : Nat → Int32} {T0 : TA} : ∀ n T, lnC rdA T0 n T → ∃ Ts : Nat → TA, Ts 0 = T0 ∧ Ts n = T ∧ ∀ k, k < n → okT (Ts k) ∧ lnK rdA k (Ts k) (Ts (k + 1))
  | 0, T, h => ⟨fun _ => T0, rfl, h.symm, fun k hk => by omega⟩
  | n + 1, T, ⟨T1, h1, h2, h3⟩ => by
    obtain ⟨Ts, e1, e2, e3⟩ := lnC_seq n T1 h1
    refine ⟨fun j => if j ≤ n then Ts j else T, by show (if 0 ≤ n then Ts 0 else T) = _; rw [if_pos (by omega), e1], by show (if n + 1 ≤ n then Ts (n + 1) else T) = T; rw [if_neg (by omega)], fun k hk => ?_⟩
    show okT (if k ≤ n then Ts k else T) ∧ lnK rdA k (if k ≤ n then Ts k else T) (if k + 1 ≤ n then Ts (k + 1) else T)
    rw [if_pos (by omega)]
    by_cases e : k = n
    · rw [if_neg (by omega), e, e2]; exact ⟨h2, h3⟩
    · rw [if_pos (by omega)]; exact e3 k (by omega)
