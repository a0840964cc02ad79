/-! ===== joins ===== -/
theorem zj0E {β : Type} (rest : Option β) (reg : Option β → Option β) : zj0 rest reg = reg rest := rfl
/-! ===== the reference's line; a line, alike ===== -/
theorem m_line {mlen at' pl en ry rs rc g8 g9 g10 g15 g16 g17 ok : Int32} {mt read g18 : Nat → Int32} {rm c : Nat} (hc : c < 9) (hrm : rm < 12) (hw : F_X9_wordOf pl en mt = some (nI c)) (hrs : c = 2 → rs ≠ 6) (hrc : 3 ≤ c ∧ c ≤ 6 → rc ≠ 5) (ht : F_X9_token mlen at' pl en mt = some (g8, g9, g10)) (hr : F_X9_readsRest mlen (nI rm) g8 g9 g10 ry mt (upd read (5 * rm) (nI c)) (nI c) = some (ok, g15, g16, g17, g18)) (hok : ok = 0 ∨ ok = 1) :
    F_X9_readsLine mlen (nI rm) at' pl en ry rs rc mt read = some (if ok = 0 then (0, nI rm, g15, g16, g17, ry, rs, rc, g18) else (1, nI (rm + 1), g15, g16, g17, (if c = 0 then g18 (5 * rm + 1) else ry), (if c = 0 ∨ c = 7 then 0 else if c = 2 then rs + 1 else rs), (if c = 0 ∨ c = 8 then 0 else if 3 ≤ c ∧ c ≤ 6 then rc + 1 else rc), g18)) := by
  have hcw := m_isChW c hc
  have hwr : ∀ {β : Type} (k : (Nat → Int32) → Option β), wr 60 ((5 : Int32) * nI rm) (upd read (((5 : Int32) * nI rm)).toNatClampNeg (nI c)) k = k (upd read (5 * rm) (nI c)) := fun k => by
    rw [show (5 : Int32) = nI 5 from rfl, pk_mul, wrN (by omega) (by omega), nI_clamp (by omega)]
  have hrd : ∀ {β : Type} (k : Int32 → Option β), rd 60 g18 (((5 : Int32) * nI rm) + (1 : Int32)) k = k (g18 (5 * rm + 1)) := fun k => by
    rw [show (5 : Int32) = nI 5 from rfl, pk_mul, nI_1, rdN (by omega) (by omega)]
  unfold F_X9_readsLine
  rw [hw, zc1_e]
  rcases (show c = 0 ∨ c = 1 ∨ c = 2 ∨ c = 3 ∨ c = 4 ∨ c = 5 ∨ c = 6 ∨ c = 7 ∨ c = 8 by omega) with rfl | rfl | rfl | rfl | rfl | rfl | rfl | rfl | rfl
  · rw [if_neg (show ¬ nI 0 = (-1 : Int32) from by decide), zj0E]
    try dsimp only
    rw [if_neg (show ¬ nI 0 = (2 : Int32) from by decide)]
    rw [show F_X9_isChildWord (nI 0) = some 0 from hcw, zc1_e, zj0E]
    try dsimp only
    rw [if_pos (show (0 : Int32) = 0 from rfl)]
    rw [ht, zc3_e, hwr, hr, zc5_e]
    rcases hok with rfl | rfl
    · rw [if_pos (show (0 : Int32) = 0 from rfl), if_pos (show (0 : Int32) = 0 from rfl)]
    · rw [if_neg (show ¬ (1 : Int32) = 0 from by decide), if_neg (show ¬ (1 : Int32) = 0 from by decide), zj1E]
      try dsimp only
      rw [if_pos (show nI 0 = (0 : Int32) from by decide), hrd]
      rw [zj0E]
      try dsimp only
      rw [if_pos (show nI 0 = (0 : Int32) from by decide), zj0E]
      try dsimp only
      rw [if_pos (show nI 0 = (0 : Int32) from by decide), bdE, nI_1]
      try simp only [true_or, or_true, or_self, false_or, or_false, if_true, if_false, show ((0 : Nat) = 0) = True from eq_true (by decide), show ((0 : Nat) = 2) = False from eq_false (by decide), show ((0 : Nat) = 7) = False from eq_false (by decide), show ((0 : Nat) = 8) = False from eq_false (by decide), show (3 ≤ (0 : Nat) ∧ (0 : Nat) ≤ 6) = False from eq_false (by decide)]
  · rw [if_neg (show ¬ nI 1 = (-1 : Int32) from by decide), zj0E]
    try dsimp only
    rw [if_neg (show ¬ nI 1 = (2 : Int32) from by decide)]
    rw [show F_X9_isChildWord (nI 1) = some 0 from hcw, zc1_e, zj0E]
    try dsimp only
    rw [if_pos (show (0 : Int32) = 0 from rfl)]
    rw [ht, zc3_e, hwr, hr, zc5_e]
    rcases hok with rfl | rfl
    · rw [if_pos (show (0 : Int32) = 0 from rfl), if_pos (show (0 : Int32) = 0 from rfl)]
    · rw [if_neg (show ¬ (1 : Int32) = 0 from by decide), if_neg (show ¬ (1 : Int32) = 0 from by decide), zj1E]
      try dsimp only
      rw [if_neg (show ¬ nI 1 = (0 : Int32) from by decide)]
      rw [zj0E]
      try dsimp only
      rw [if_neg (show ¬ nI 1 = (0 : Int32) from by decide), if_neg (show ¬ nI 1 = (7 : Int32) from by decide), zj1E]
      try dsimp only
      rw [if_neg (show ¬ nI 1 = (2 : Int32) from by decide)]
      rw [zj0E]
      try dsimp only
      rw [if_neg (show ¬ nI 1 = (0 : Int32) from by decide), if_neg (show ¬ nI 1 = (8 : Int32) from by decide), zc1_e, zj1E]
      try dsimp only
      rw [if_pos (show (0 : Int32) = 0 from rfl), bdE, nI_1]
      try simp only [true_or, or_true, or_self, false_or, or_false, if_true, if_false, show ((1 : Nat) = 0) = False from eq_false (by decide), show ((1 : Nat) = 2) = False from eq_false (by decide), show ((1 : Nat) = 7) = False from eq_false (by decide), show ((1 : Nat) = 8) = False from eq_false (by decide), show (3 ≤ (1 : Nat) ∧ (1 : Nat) ≤ 6) = False from eq_false (by decide)]
  · rw [if_neg (show ¬ nI 2 = (-1 : Int32) from by decide), zj0E]
    try dsimp only
    rw [if_pos (show nI 2 = (2 : Int32) from by decide), if_neg (hrs rfl)]
    rw [show F_X9_isChildWord (nI 2) = some 0 from hcw, zc1_e, zj0E]
    try dsimp only
    rw [if_pos (show (0 : Int32) = 0 from rfl)]
    rw [ht, zc3_e, hwr, hr, zc5_e]
    rcases hok with rfl | rfl
    · rw [if_pos (show (0 : Int32) = 0 from rfl), if_pos (show (0 : Int32) = 0 from rfl)]
    · rw [if_neg (show ¬ (1 : Int32) = 0 from by decide), if_neg (show ¬ (1 : Int32) = 0 from by decide), zj1E]
      try dsimp only
      rw [if_neg (show ¬ nI 2 = (0 : Int32) from by decide)]
      rw [zj0E]
      try dsimp only
      rw [if_neg (show ¬ nI 2 = (0 : Int32) from by decide), if_neg (show ¬ nI 2 = (7 : Int32) from by decide), zj1E]
      try dsimp only
      rw [if_pos (show nI 2 = (2 : Int32) from by decide)]
      rw [zj0E]
      try dsimp only
      rw [if_neg (show ¬ nI 2 = (0 : Int32) from by decide), if_neg (show ¬ nI 2 = (8 : Int32) from by decide), zc1_e, zj1E]
      try dsimp only
      rw [if_pos (show (0 : Int32) = 0 from rfl), bdE, nI_1]
      try simp only [true_or, or_true, or_self, false_or, or_false, if_true, if_false, show ((2 : Nat) = 0) = False from eq_false (by decide), show ((2 : Nat) = 2) = True from eq_true (by decide), show ((2 : Nat) = 7) = False from eq_false (by decide), show ((2 : Nat) = 8) = False from eq_false (by decide), show (3 ≤ (2 : Nat) ∧ (2 : Nat) ≤ 6) = False from eq_false (by decide)]
  · rw [if_neg (show ¬ nI 3 = (-1 : Int32) from by decide), zj0E]
    try dsimp only
    rw [if_neg (show ¬ nI 3 = (2 : Int32) from by decide)]
    rw [show F_X9_isChildWord (nI 3) = some 1 from hcw, zc1_e, zj0E]
    try dsimp only
    rw [if_neg (show ¬ (1 : Int32) = 0 from by decide), if_neg (hrc ⟨by omega, by omega⟩)]
    rw [ht, zc3_e, hwr, hr, zc5_e]
    rcases hok with rfl | rfl
    · rw [if_pos (show (0 : Int32) = 0 from rfl), if_pos (show (0 : Int32) = 0 from rfl)]
    · rw [if_neg (show ¬ (1 : Int32) = 0 from by decide), if_neg (show ¬ (1 : Int32) = 0 from by decide), zj1E]
      try dsimp only
      rw [if_neg (show ¬ nI 3 = (0 : Int32) from by decide)]
      rw [zj0E]
      try dsimp only
      rw [if_neg (show ¬ nI 3 = (0 : Int32) from by decide), if_neg (show ¬ nI 3 = (7 : Int32) from by decide), zj1E]
      try dsimp only
      rw [if_neg (show ¬ nI 3 = (2 : Int32) from by decide)]
      rw [zj0E]
      try dsimp only
      rw [if_neg (show ¬ nI 3 = (0 : Int32) from by decide), if_neg (show ¬ nI 3 = (8 : Int32) from by decide), zc1_e, zj1E]
      try dsimp only
      rw [if_neg (show ¬ (1 : Int32) = 0 from by decide), bdE, nI_1]
      try simp only [true_or, or_true, or_self, false_or, or_false, if_true, if_false, show ((3 : Nat) = 0) = False from eq_false (by decide), show ((3 : Nat) = 2) = False from eq_false (by decide), show ((3 : Nat) = 7) = False from eq_false (by decide), show ((3 : Nat) = 8) = False from eq_false (by decide), show (3 ≤ (3 : Nat) ∧ (3 : Nat) ≤ 6) = True from eq_true (by decide)]
  · rw [if_neg (show ¬ nI 4 = (-1 : Int32) from by decide), zj0E]
    try dsimp only
    rw [if_neg (show ¬ nI 4 = (2 : Int32) from by decide)]
    rw [show F_X9_isChildWord (nI 4) = some 1 from hcw, zc1_e, zj0E]
    try dsimp only
    rw [if_neg (show ¬ (1 : Int32) = 0 from by decide), if_neg (hrc ⟨by omega, by omega⟩)]
    rw [ht, zc3_e, hwr, hr, zc5_e]
    rcases hok with rfl | rfl
    · rw [if_pos (show (0 : Int32) = 0 from rfl), if_pos (show (0 : Int32) = 0 from rfl)]
    · rw [if_neg (show ¬ (1 : Int32) = 0 from by decide), if_neg (show ¬ (1 : Int32) = 0 from by decide), zj1E]
      try dsimp only
      rw [if_neg (show ¬ nI 4 = (0 : Int32) from by decide)]
      rw [zj0E]
      try dsimp only
      rw [if_neg (show ¬ nI 4 = (0 : Int32) from by decide), if_neg (show ¬ nI 4 = (7 : Int32) from by decide), zj1E]
      try dsimp only
      rw [if_neg (show ¬ nI 4 = (2 : Int32) from by decide)]
      rw [zj0E]
      try dsimp only
      rw [if_neg (show ¬ nI 4 = (0 : Int32) from by decide), if_neg (show ¬ nI 4 = (8 : Int32) from by decide), zc1_e, zj1E]
      try dsimp only
      rw [if_neg (show ¬ (1 : Int32) = 0 from by decide), bdE, nI_1]
      try simp only [true_or, or_true, or_self, false_or, or_false, if_true, if_false, show ((4 : Nat) = 0) = False from eq_false (by decide), show ((4 : Nat) = 2) = False from eq_false (by decide), show ((4 : Nat) = 7) = False from eq_false (by decide), show ((4 : Nat) = 8) = False from eq_false (by decide), show (3 ≤ (4 : Nat) ∧ (4 : Nat) ≤ 6) = True from eq_true (by decide)]
  · rw [if_neg (show ¬ nI 5 = (-1 : Int32) from by decide), zj0E]
    try dsimp only
    rw [if_neg (show ¬ nI 5 = (2 : Int32) from by decide)]
    rw [show F_X9_isChildWord (nI 5) = some 1 from hcw, zc1_e, zj0E]
    try dsimp only
    rw [if_neg (show ¬ (1 : Int32) = 0 from by decide), if_neg (hrc ⟨by omega, by omega⟩)]
    rw [ht, zc3_e, hwr, hr, zc5_e]
    rcases hok with rfl | rfl
    · rw [if_pos (show (0 : Int32) = 0 from rfl), if_pos (show (0 : Int32) = 0 from rfl)]
    · rw [if_neg (show ¬ (1 : Int32) = 0 from by decide), if_neg (show ¬ (1 : Int32) = 0 from by decide), zj1E]
      try dsimp only
      rw [if_neg (show ¬ nI 5 = (0 : Int32) from by decide)]
      rw [zj0E]
      try dsimp only
      rw [if_neg (show ¬ nI 5 = (0 : Int32) from by decide), if_neg (show ¬ nI 5 = (7 : Int32) from by decide), zj1E]
      try dsimp only
      rw [if_neg (show ¬ nI 5 = (2 : Int32) from by decide)]
      rw [zj0E]
      try dsimp only
      rw [if_neg (show ¬ nI 5 = (0 : Int32) from by decide), if_neg (show ¬ nI 5 = (8 : Int32) from by decide), zc1_e, zj1E]
      try dsimp only
      rw [if_neg (show ¬ (1 : Int32) = 0 from by decide), bdE, nI_1]
      try simp only [true_or, or_true, or_self, false_or, or_false, if_true, if_false, show ((5 : Nat) = 0) = False from eq_false (by decide), show ((5 : Nat) = 2) = False from eq_false (by decide), show ((5 : Nat) = 7) = False from eq_false (by decide), show ((5 : Nat) = 8) = False from eq_false (by decide), show (3 ≤ (5 : Nat) ∧ (5 : Nat) ≤ 6) = True from eq_true (by decide)]
  · rw [if_neg (show ¬ nI 6 = (-1 : Int32) from by decide), zj0E]
    try dsimp only
    rw [if_neg (show ¬ nI 6 = (2 : Int32) from by decide)]
    rw [show F_X9_isChildWord (nI 6) = some 1 from hcw, zc1_e, zj0E]
    try dsimp only
    rw [if_neg (show ¬ (1 : Int32) = 0 from by decide), if_neg (hrc ⟨by omega, by omega⟩)]
    rw [ht, zc3_e, hwr, hr, zc5_e]
    rcases hok with rfl | rfl
    · rw [if_pos (show (0 : Int32) = 0 from rfl), if_pos (show (0 : Int32) = 0 from rfl)]
    · rw [if_neg (show ¬ (1 : Int32) = 0 from by decide), if_neg (show ¬ (1 : Int32) = 0 from by decide), zj1E]
      try dsimp only
      rw [if_neg (show ¬ nI 6 = (0 : Int32) from by decide)]
      rw [zj0E]
      try dsimp only
      rw [if_neg (show ¬ nI 6 = (0 : Int32) from by decide), if_neg (show ¬ nI 6 = (7 : Int32) from by decide), zj1E]
      try dsimp only
      rw [if_neg (show ¬ nI 6 = (2 : Int32) from by decide)]
      rw [zj0E]
      try dsimp only
      rw [if_neg (show ¬ nI 6 = (0 : Int32) from by decide), if_neg (show ¬ nI 6 = (8 : Int32) from by decide), zc1_e, zj1E]
      try dsimp only
      rw [if_neg (show ¬ (1 : Int32) = 0 from by decide), bdE, nI_1]
      try simp only [true_or, or_true, or_self, false_or, or_false, if_true, if_false, show ((6 : Nat) = 0) = False from eq_false (by decide), show ((6 : Nat) = 2) = False from eq_false (by decide), show ((6 : Nat) = 7) = False from eq_false (by decide), show ((6 : Nat) = 8) = False from eq_false (by decide), show (3 ≤ (6 : Nat) ∧ (6 : Nat) ≤ 6) = True from eq_true (by decide)]
  · rw [if_neg (show ¬ nI 7 = (-1 : Int32) from by decide), zj0E]
    try dsimp only
    rw [if_neg (show ¬ nI 7 = (2 : Int32) from by decide)]
    rw [show F_X9_isChildWord (nI 7) = some 0 from hcw, zc1_e, zj0E]
    try dsimp only
    rw [if_pos (show (0 : Int32) = 0 from rfl)]
    rw [ht, zc3_e, hwr, hr, zc5_e]
    rcases hok with rfl | rfl
    · rw [if_pos (show (0 : Int32) = 0 from rfl), if_pos (show (0 : Int32) = 0 from rfl)]
    · rw [if_neg (show ¬ (1 : Int32) = 0 from by decide), if_neg (show ¬ (1 : Int32) = 0 from by decide), zj1E]
      try dsimp only
      rw [if_neg (show ¬ nI 7 = (0 : Int32) from by decide)]
      rw [zj0E]
      try dsimp only
      rw [if_neg (show ¬ nI 7 = (0 : Int32) from by decide), if_pos (show nI 7 = (7 : Int32) from by decide), zj0E]
      try dsimp only
      rw [if_neg (show ¬ nI 7 = (0 : Int32) from by decide), if_neg (show ¬ nI 7 = (8 : Int32) from by decide), zc1_e, zj1E]
      try dsimp only
      rw [if_pos (show (0 : Int32) = 0 from rfl), bdE, nI_1]
      try simp only [true_or, or_true, or_self, false_or, or_false, if_true, if_false, show ((7 : Nat) = 0) = False from eq_false (by decide), show ((7 : Nat) = 2) = False from eq_false (by decide), show ((7 : Nat) = 7) = True from eq_true (by decide), show ((7 : Nat) = 8) = False from eq_false (by decide), show (3 ≤ (7 : Nat) ∧ (7 : Nat) ≤ 6) = False from eq_false (by decide)]
  · rw [if_neg (show ¬ nI 8 = (-1 : Int32) from by decide), zj0E]
    try dsimp only
    rw [if_neg (show ¬ nI 8 = (2 : Int32) from by decide)]
    rw [show F_X9_isChildWord (nI 8) = some 0 from hcw, zc1_e, zj0E]
    try dsimp only
    rw [if_pos (show (0 : Int32) = 0 from rfl)]
    rw [ht, zc3_e, hwr, hr, zc5_e]
    rcases hok with rfl | rfl
    · rw [if_pos (show (0 : Int32) = 0 from rfl), if_pos (show (0 : Int32) = 0 from rfl)]
    · rw [if_neg (show ¬ (1 : Int32) = 0 from by decide), if_neg (show ¬ (1 : Int32) = 0 from by decide), zj1E]
      try dsimp only
      rw [if_neg (show ¬ nI 8 = (0 : Int32) from by decide)]
      rw [zj0E]
      try dsimp only
      rw [if_neg (show ¬ nI 8 = (0 : Int32) from by decide), if_neg (show ¬ nI 8 = (7 : Int32) from by decide), zj1E]
      try dsimp only
      rw [if_neg (show ¬ nI 8 = (2 : Int32) from by decide)]
      rw [zj0E]
      try dsimp only
      rw [if_neg (show ¬ nI 8 = (0 : Int32) from by decide), if_pos (show nI 8 = (8 : Int32) from by decide), bdE, nI_1]
      try simp only [true_or, or_true, or_self, false_or, or_false, if_true, if_false, show ((8 : Nat) = 0) = False from eq_false (by decide), show ((8 : Nat) = 2) = False from eq_false (by decide), show ((8 : Nat) = 7) = False from eq_false (by decide), show ((8 : Nat) = 8) = True from eq_true (by decide), show (3 ≤ (8 : Nat) ∧ (8 : Nat) ≤ 6) = False from eq_false (by decide)]
/-- what a line that was read says -/
def lnK (read : Nat → Int32) (k : Nat) (T T' : TA) : Prop := ∃ c v1 v2 v3 v4, c ≤ 8 ∧ read (5 * k) = nI c ∧ T' = tellN T c v1 v2 v3 v4 ∧ (c = 0 → read (5 * k + 1) = nI v1 ∧ v1 < 2 ^ 30) ∧ (c = 1 → read (5 * k + 1) = nI v1 ∧ read (5 * k + 2) = nI v2 ∧ v1 ≤ 11) ∧ (c = 2 → read (5 * k + 1) = nI v1 ∧ read (5 * k + 2) = nI v2 ∧ read (5 * k + 3) = nI v3 ∧ read (5 * k + 4) = nI v4 ∧ tS T < 6) ∧ (3 ≤ c ∧ c ≤ 6 → read (5 * k + 1) = nI v1 ∧ read (5 * k + 2) = nI v2 ∧ read (5 * k + 3) = nI v3 ∧ tC T < 5)
def lnC (read : Nat → Int32) (T0 : TA) : Nat → TA → Prop
  | 0, T => T = T0
  | n + 1, T => ∃ T1, lnC read T0 n T1 ∧ okT T1 ∧ lnK read n T1 T
theorem lnK_frame {read read' : Nat → Int32} {k : Nat} {T T' : TA} (hf : ∀ j, j < 5 * k + 5 → read' j = read j) (h : lnK read k T T') : lnK read' k T T' := by
  obtain ⟨c, v1, v2, v3, v4, h1, h2, h3, h4, h5, h6, h7⟩ := h
  refine ⟨c, v1, v2, v3, v4, h1, ?_, h3, fun h => ?_, fun h => ?_, fun h => ?_, fun h => ?_⟩
  · rw [hf _ (by omega)]; exact h2
  · rw [hf _ (by omega)]; exact h4 h
  · rw [hf _ (by omega), hf _ (by omega)]; exact h5 h
  · rw [hf _ (by omega), hf _ (by omega), hf _ (by omega), hf _ (by omega)]; exact h6 h
  · rw [hf _ (by omega), hf _ (by omega), hf _ (by omega)]; exact h7 h
theorem lnC_frame {read read' : Nat → Int32} {T0 : TA} : ∀ n T, (∀ j, j < 5 * n → read' j = read j) → lnC read T0 n T → lnC read' T0 n T
  | 0, T, _, h => h
  | n + 1, T, hf, ⟨T1, h1, h2, h3⟩ => ⟨T1, lnC_frame n T1 (fun j hj => hf j (by omega)) h1, h2, lnK_frame (fun j hj => hf j (by omega)) h3⟩
theorem rT_upd {f : Nat → Int32} {g : Nat → Nat} {n v : Nat} (h : ∀ s, s < n → f s = nI (g s)) : ∀ s, s < n + 1 → upd f n (nI v) s = nI (updN g n v s) := fun s hs => by
  rw [upd_at]
  unfold updN
  by_cases e : s = n
  · rw [if_pos e, if_pos e]
  · rw [if_neg e, if_neg e]; exact h s (by omega)
