/-! ===== what is told and a night, as numbers ===== -/
abbrev TA : Type := Nat × Nat × Nat × (Nat → Nat) × (Nat → Nat) × (Nat → Nat) × (Nat → Nat) × (Nat → Nat) × (Nat → Nat) × (Nat → Nat) × (Nat → Nat) × (Nat → Nat)
abbrev tY (T : TA) : Nat := T.1
abbrev tS (T : TA) : Nat := T.2.1
abbrev tC (T : TA) : Nat := T.2.2.1
abbrev tTd (T : TA) : Nat → Nat := T.2.2.2.1
abbrev tSy (T : TA) : Nat → Nat := T.2.2.2.2.1
abbrev tSz (T : TA) : Nat → Nat := T.2.2.2.2.2.1
abbrev tGr (T : TA) : Nat → Nat := T.2.2.2.2.2.2.1
abbrev tLv (T : TA) : Nat → Nat := T.2.2.2.2.2.2.2.1
abbrev tKd (T : TA) : Nat → Nat := T.2.2.2.2.2.2.2.2.1
abbrev tCy (T : TA) : Nat → Nat := T.2.2.2.2.2.2.2.2.2.1
abbrev tPc (T : TA) : Nat → Nat := T.2.2.2.2.2.2.2.2.2.2.1
abbrev tEr (T : TA) : Nat → Nat := T.2.2.2.2.2.2.2.2.2.2.2
abbrev NA : Type := Nat × (Nat → Bool) × (Nat → Bool) × (Nat → Nat) × (Nat → Nat) × (Nat → Nat)
abbrev nH (N : NA) : Nat := N.1
abbrev nF (N : NA) : Nat → Bool := N.2.1
abbrev nD (N : NA) : Nat → Bool := N.2.2.1
abbrev nS (N : NA) : Nat → Nat := N.2.2.2.1
abbrev nY (N : NA) : Nat → Nat := N.2.2.2.2.1
abbrev nO (N : NA) : Nat → Nat := N.2.2.2.2.2
def okT (T : TA) : Prop := 4 ≤ tY T ∧ tY T ≤ 24 ∧ tS T ≤ 6 ∧ tC T ≤ 5 ∧ (∀ h, h < 12 → tTd T h ≤ 9) ∧ (∀ s, s < tS T → tSy T s < tY T ∧ 1 ≤ tSz T s ∧ tSz T s ≤ 99 ∧ tGr T s ≤ 9 ∧ tLv T s ≤ 9) ∧ ∀ c, c < tC T → tKd T c ≤ 3 ∧ tCy T c < tY T ∧ tPc T c ≤ 3 ∧ tEr T c ≤ 9
def okN (T : TA) (N : NA) (M : Nat) : Prop := nH N ≤ M ∧ (∀ s, s < tS T → 1 ≤ nS N s ∧ nS N s ≤ 100) ∧ ∀ c, c < tC T → nY N c < tY T
/-- the class's cells -/
def rT (yards seeps children : Int32) (tides seepYard seepSize growth level kind childYard pace ear : Nat → Int32) (T : TA) : Prop :=
  yards = nI (tY T) ∧ seeps = nI (tS T) ∧ children = nI (tC T) ∧ (∀ h, h < 12 → tides h = nI (tTd T h)) ∧ (∀ s, s < tS T → seepYard s = nI (tSy T s) ∧ seepSize s = nI (tSz T s) ∧ growth s = nI (tGr T s) ∧ level s = nI (tLv T s)) ∧ ∀ c, c < tC T → kind c = nI (tKd T c) ∧ childYard c = nI (tCy T c) ∧ pace c = nI (tPc T c) ∧ ear c = nI (tEr T c)
def rN (hours filled toLesser : Int32) (size yard oranges : Nat → Int32) (T : TA) (N : NA) : Prop :=
  hours = nI (nH N) ∧ filled = nI (bitsN (tS T) (nF N)) ∧ toLesser = nI (bitsN (tC T) (nD N)) ∧ (∀ s, s < tS T → size s = nI (nS N s)) ∧ ∀ c, c < tC T → yard c = nI (nY N c) ∧ oranges c = nI (nO N c)
/-- the reference's cells -/
def mT (yards seepMany many : Int32) (row tides seeps kinds paces ears : Nat → Int32) (T : TA) : Prop :=
  yards = nI (tY T) ∧ seepMany = nI (tS T) ∧ many = nI (tC T) ∧ (∀ h, h < 12 → tides h = nI (tTd T h)) ∧ (∀ s, s < tS T → seeps (3 * s) = nI (tSy T s) ∧ row (76 + s) = nI (tSz T s) ∧ seeps (3 * s + 1) = nI (tGr T s) ∧ seeps (3 * s + 2) = nI (tLv T s)) ∧ ∀ c, c < tC T → kinds c = nI (tKd T c) ∧ row (83 + c) = nI (tCy T c) ∧ paces c = nI (tPc T c) ∧ ears c = nI (tEr T c)
def mN (base : Nat) (row : Nat → Int32) (T : TA) (N : NA) : Prop :=
  row (base + 18) = nI (nH N) ∧ row (base + 6) = nI (bitsN (tS T) (nF N)) ∧ row (base + 12) = nI (bitsN (tC T) (nD N)) ∧ (∀ s, s < tS T → row (base + s) = nI (nS N s)) ∧ ∀ c, c < tC T → row (base + 7 + c) = nI (nY N c) ∧ row (base + 13 + c) = nI (nO N c)
/-! an hour -/
def grownN (T : TA) (h s z : Nat) : Nat := if tLv T s ≤ tTd T (h % 12) then min 100 (z + tGr T s) else z
def stepC (Y : Nat) (q : Bool × Nat) : Bool × Nat :=
  let b := if q.2 = (if q.1 then 0 else Y - 1) then !q.1 else q.1
  (b, if b then q.2 - 1 else q.2 + 1)
def wkC (Y : Nat) : Nat → Bool × Nat → Bool × Nat
  | 0, q => q
  | n + 1, q => stepC Y (wkC Y n q)
def hourN (T : TA) (N : NA) : NA := (nH N + 1, nF N, fun c => (wkC (tY T) (tPc T c) (nD N c, nY N c)).1, fun s => if nF N s then nS N s else grownN T (nH N) s (nS N s), fun c => (wkC (tY T) (tPc T c) (nD N c, nY N c)).2, nO N)
def hoursN (T : TA) : Nat → NA → NA
  | 0, N => N
  | n + 1, N => hourN T (hoursN T n N)
theorem stepC_lt {Y : Nat} {q : Bool × Nat} (hY : 2 ≤ Y) (h : q.2 < Y) : (stepC Y q).2 < Y := by
  obtain ⟨b, y⟩ := q
  have h : y < Y := h
  unfold stepC
  cases b
  · by_cases e : y = Y - 1
    · simp [e]; omega
    · simp [e]; omega
  · by_cases e : y = 0
    · simp [e]; omega
    · simp [e]; omega
theorem wkC_lt {Y : Nat} (hY : 2 ≤ Y) (n : Nat) {q : Bool × Nat} (h : q.2 < Y) : (wkC Y n q).2 < Y := by
  induction n with
  | zero => exact h
  | succ n ih => exact stepC_lt hY ih
theorem grownN_ok {T : TA} {h s z : Nat} (hz : 1 ≤ z ∧ z ≤ 100) : 1 ≤ grownN T h s z ∧ grownN T h s z ≤ 100 := by
  unfold grownN; split <;> omega
theorem hourN_ok {T : TA} {N : NA} {M : Nat} (hT : okT T) (h : okN T N M) : okN T (hourN T N) (M + 1) := by
  obtain ⟨h1, h2, h3⟩ := h
  refine ⟨by show nH N + 1 ≤ M + 1; omega, fun s hs => ?_, fun c hc => ?_⟩
  · show 1 ≤ (if nF N s then nS N s else grownN T (nH N) s (nS N s)) ∧ (if nF N s then nS N s else grownN T (nH N) s (nS N s)) ≤ 100
    split
    · exact h2 s hs
    · exact grownN_ok (h2 s hs)
  · exact wkC_lt (by have := hT.1; omega) _ (h3 c hc)
theorem hoursN_ok {T : TA} {N : NA} {M : Nat} (hT : okT T) (h : okN T N M) (n : Nat) : okN T (hoursN T n N) (M + n) := by
  induction n with
  | zero => exact h
  | succ n ih => exact hourN_ok hT ih
theorem bitsN_xor {n c : Nat} (p : Nat → Bool) (hc : c < n) : bitsN n p ^^^ 2 ^ c = bitsN n (fun i => if i = c then !p i else p i) := by
  apply Nat.eq_of_testBit_eq
  intro i
  rw [Nat.testBit_xor, bitsN_test, bitsN_test]
  by_cases h : i = c
  · subst h
    simp [hc, Nat.testBit_two_pow_self]
  · rw [Nat.testBit_two_pow_of_ne (fun e => h e.symm)]
    simp [h]
theorem upd_at {f : Nat → Int32} {k : Nat} {x : Int32} (j : Nat) : upd f k x j = if j = k then x else f j := rfl
/-! tide and growth -/
theorem v_floorMod {a : Nat} (ha : a < 2 ^ 31) : F_J9_floorMod_7cf53 (nI a) (nI 12) = some (nI (a % 12)) := by
  unfold F_J9_floorMod_7cf53 ckI
  rw [if_neg (by decide), remN ha (by omega) (by omega), bdE]
  have hx : (0 : Int32) ≤ nI a ^^^ nI 12 := by
    rw [fa_xor]
    exact nI_pos' (Nat.xor_lt_two_pow ha (by omega))
  rw [if_pos hx]
theorem v_tideAt {td : Nat → Nat} {f : Nat → Int32} {a : Nat} (ha : a < 2 ^ 31) (hf : ∀ h, h < 12 → f h = nI (td h)) : F_X7_tideAt f (nI a) = some (nI (td (a % 12))) := by
  unfold F_X7_tideAt
  have := Nat.mod_lt a (show 0 < 12 by omega)
  simp (disch := omega) only [v_floorMod ha, hf _ this, zj0, zj1, zj2, zj3, zj4, zj9, bdE, nI_add, pk_mul, pk_sub, rdN, wrN, zc0_e, zc1_e, zc2_e, zc3_e, zc4_e, zc5_e, nI_1, nI_clamp, bzp, ne10, eq00, ne01, eq11, if_true, if_false, or0, ckZ1, ckZ0, ckZp, L2, L3, L4, L5, L6, L7, L8, L9, L10, L11, L12, L13, L18, L19, L23, L24, L32, L48, L57, L59, L76, L96, L97, L99, L100, L122, L120, L200, L999, L9999]
theorem v_grown {T : TA} {tides growth level : Nat → Int32} {s z h : Nat} (hT : okT T) (hs : s < tS T) (hh : h < 2 ^ 31) (hz : z ≤ 100) (h1 : ∀ h, h < 12 → tides h = nI (tTd T h)) (h2 : growth s = nI (tGr T s)) (h3 : level s = nI (tLv T s)) : F_X7_grown tides growth level (nI s) (nI z) (nI h) = some (nI (grownN T h s z)) := by
  unfold F_X7_grown grownN
  have := Nat.mod_lt h (show 0 < 12 by omega)
  obtain ⟨-, -, a1, -, a2, a3, -⟩ := hT
  have := a2 _ this
  have := a3 s hs
  simp (disch := omega) only [v_tideAt hh h1, h2, h3, ltN, zj0, zj1, zj2, zj3, zj4, zj9, bdE, nI_add, pk_mul, pk_sub, rdN, wrN, zc0_e, zc1_e, zc2_e, zc3_e, zc4_e, zc5_e, nI_1, nI_clamp, bzp, ne10, eq00, ne01, eq11, if_true, if_false, or0, ckZ1, ckZ0, ckZp, L2, L3, L4, L5, L6, L7, L8, L9, L10, L11, L12, L13, L18, L19, L23, L24, L32, L48, L57, L59, L76, L96, L97, L99, L100, L122, L120, L200, L999, L9999]
  by_cases c : tLv T s ≤ tTd T (h % 12)
  · rw [if_neg (by omega), if_pos c]
    by_cases d : z + tGr T s < 100
    · rw [if_pos d, Nat.min_eq_right (by omega)]
    · rw [if_neg d, Nat.min_eq_left (by omega)]
  · rw [if_pos (by omega), if_neg c]
