/-! ===== pure tools: numbers, reads, loops ===== -/
theorem l0 : (0 : Int32) = nI 0 := rfl
theorem l1 : (1 : Int32) = nI 1 := rfl
theorem fa_and (a b : Nat) : nI a &&& nI b = nI (a &&& b) := by
  apply Int32.toBitVec_inj.1
  show BitVec.ofNat 32 a &&& BitVec.ofNat 32 b = BitVec.ofNat 32 (a &&& b)
  apply BitVec.eq_of_getLsbD_eq
  intro i hi
  simp [hi]
theorem fa_or (a b : Nat) : nI a ||| nI b = nI (a ||| b) := by
  apply Int32.toBitVec_inj.1
  show BitVec.ofNat 32 a ||| BitVec.ofNat 32 b = BitVec.ofNat 32 (a ||| b)
  apply BitVec.eq_of_getLsbD_eq
  intro i hi
  simp [hi]
theorem fa_xor (a b : Nat) : nI a ^^^ nI b = nI (a ^^^ b) := by
  apply Int32.toBitVec_inj.1
  show BitVec.ofNat 32 a ^^^ BitVec.ofNat 32 b = BitVec.ofNat 32 (a ^^^ b)
  apply BitVec.eq_of_getLsbD_eq
  intro i hi
  simp [hi]
theorem s_l : ∀ n, n < 32 → ((nI n &&& 31).toBitVec.smod 32).toNat = n := by decide +kernel
theorem fa_lt (a b : Int32) : a < b ↔ a.toInt < b.toInt := Int32.lt_iff_toInt_lt
theorem fa_le (a b : Int32) : a ≤ b ↔ a.toInt ≤ b.toInt := Int32.le_iff_toInt_le
theorem fa_eq (a b : Int32) : a = b ↔ a.toInt = b.toInt := Int32.toInt_inj.symm
theorem bdE {α β : Type} (e : α) (k : α → Option β) : bd e k = k e := rfl
theorem rdN {α β : Type} {n i : Nat} {f : Nat → α} {k : α → Option β} (h : i < n) (hn : n < 2 ^ 31) : rd n f (nI i) k = k (f i) := by
  unfold rd
  rw [if_neg (nI_in h hn), nI_clamp (by omega)]
theorem wrN {α β : Type} {n i : Nat} {g : α} {k : α → Option β} (h : i < n) (hn : n < 2 ^ 31) : wr n (nI i) g k = k g := by
  unfold wr
  rw [if_neg (nI_in h hn)]
theorem shlN {n i : Nat} (hi : i < 32) (h : n * 2 ^ i < 2 ^ 32) : nI n <<< (nI i &&& 31) = nI (n * 2 ^ i) := pk_shlN _ i (s_l i hi) h
theorem shl1 {i : Nat} (hi : i < 31) : (1 : Int32) <<< (nI i &&& 31) = nI (2 ^ i) := by
  have h : 2 ^ i < 2 ^ 31 := Nat.pow_lt_pow_right (by omega) hi
  rw [l1, shlN (by omega) (by omega)]
  congr 1
  omega
theorem shrN {n i : Nat} (hn : n < 2 ^ 31) (hi : i < 32) : nI n >>> (nI i &&& 31) = nI (n / 2 ^ i) := pk_shrN hn _ i (s_l i hi)
theorem and1 {n : Nat} (hn : n < 2 ^ 31) : nI n &&& (1 : Int32) = nI (n % 2) := pk_andN (by omega) 1 (by decide)
theorem hasN {n i : Nat} (hn : n < 2 ^ 31) (hi : i < 32) : (nI n >>> (nI i &&& 31)) &&& (1 : Int32) = if n.testBit i then 1 else 0 := by
  have h : n / 2 ^ i < 2 ^ 31 := Nat.lt_of_le_of_lt (Nat.div_le_self _ _) hn
  rw [shrN hn hi, and1 h]
  rw [Nat.testBit_eq_decide_div_mod_eq]
  rcases Nat.mod_two_eq_zero_or_one (n / 2 ^ i) with e | e <;> rw [e] <;> rfl
/-- distance -/
def dist (a b : Nat) : Nat := if a ≤ b then b - a else a - b
theorem dist_lt {a b n : Nat} (ha : a < n) (hb : b < n) : dist a b < n := by unfold dist; split <;> omega
theorem absN {a b : Nat} (ha : a < 2 ^ 30) (hb : b < 2 ^ 30) : (if 0 ≤ (nI a - nI b) then (nI a - nI b) else 0 - (nI a - nI b)) = nI (dist a b) := by
  unfold dist
  by_cases h : a ≤ b
  · rw [if_pos h]
    by_cases e : a = b
    · subst e
      rw [pk_sub (Nat.le_refl a), Nat.sub_self]
      rfl
    · have h1 : ¬ 0 ≤ nI a - nI b := by
        have := pk_sneg hb (show a < b by omega)
        rw [fa_lt, Int32.toInt_zero] at this
        rw [fa_le, Int32.toInt_zero]; omega
      rw [if_neg h1]
      apply (fa_eq _ _).mpr
      rw [nI_toInt (by omega), Int32.toInt_sub, pk_sub_toInt ha hb, Int32.toInt_zero]
      rw [Int.bmod_eq_of_le] <;> omega
  · rw [if_neg h, pk_sub (by omega), if_pos (nI_pos' (by omega))]
/-! loops -/
theorem zl1_for {A β : Type} {body : A → (A → Option β) → Option β} (a : Nat → A) (N : Nat) {R : Option β} (hs : ∀ i, i < N → ∀ k, body (a i) k = k (a (i + 1))) (hx : ∀ k, body (a N) k = R) : ∀ (d j f : Nat), d = N - j → j ≤ N → d < f → zl1 body f (a j) = R
  | d, j, 0, _, _, h => absurd h (by omega)
  | d, j, f + 1, hd, hj, hf => by
    show body (a j) (zl1 body f) = R
    by_cases e : j = N
    · subst e; exact hx _
    · rw [hs j (by omega)]
      exact zl1_for a N hs hx (d - 1) (j + 1) f (by omega) (by omega) (by omega)
theorem zl2_for {A B β : Type} {body : A → B → (A → B → Option β) → Option β} (a : Nat → A) (b : Nat → B) (N : Nat) {R : Option β} (hs : ∀ i, i < N → ∀ k, body (a i) (b i) k = k (a (i + 1)) (b (i + 1))) (hx : ∀ k, body (a N) (b N) k = R) : ∀ (d j f : Nat), d = N - j → j ≤ N → d < f → zl2 body f (a j) (b j) = R
  | d, j, 0, _, _, h => absurd h (by omega)
  | d, j, f + 1, hd, hj, hf => by
    show body (a j) (b j) (zl2 body f) = R
    by_cases e : j = N
    · subst e; exact hx _
    · rw [hs j (by omega)]
      exact zl2_for a b N hs hx (d - 1) (j + 1) f (by omega) (by omega) (by omega)
theorem zl3_for {A B C β : Type} {body : A → B → C → (A → B → C → Option β) → Option β} (a : Nat → A) (b : Nat → B) (c : Nat → C) (N : Nat) {R : Option β} (hs : ∀ i, i < N → ∀ k, body (a i) (b i) (c i) k = k (a (i + 1)) (b (i + 1)) (c (i + 1))) (hx : ∀ k, body (a N) (b N) (c N) k = R) : ∀ (d j f : Nat), d = N - j → j ≤ N → d < f → zl3 body f (a j) (b j) (c j) = R
  | d, j, 0, _, _, h => absurd h (by omega)
  | d, j, f + 1, hd, hj, hf => by
    show body (a j) (b j) (c j) (zl3 body f) = R
    by_cases e : j = N
    · subst e; exact hx _
    · rw [hs j (by omega)]
      exact zl3_for a b c N hs hx (d - 1) (j + 1) f (by omega) (by omega) (by omega)
theorem zl4_for {A B C E β : Type} {body : A → B → C → E → (A → B → C → E → Option β) → Option β} (a : Nat → A) (b : Nat → B) (c : Nat → C) (e : Nat → E) (N : Nat) {R : Option β} (hs : ∀ i, i < N → ∀ k, body (a i) (b i) (c i) (e i) k = k (a (i + 1)) (b (i + 1)) (c (i + 1)) (e (i + 1))) (hx : ∀ k, body (a N) (b N) (c N) (e N) k = R) : ∀ (d j f : Nat), d = N - j → j ≤ N → d < f → zl4 body f (a j) (b j) (c j) (e j) = R
  | d, j, 0, _, _, h => absurd h (by omega)
  | d, j, f + 1, hd, hj, hf => by
    show body (a j) (b j) (c j) (e j) (zl4 body f) = R
    by_cases q : j = N
    · subst q; exact hx _
    · rw [hs j (by omega)]
      exact zl4_for a b c e N hs hx (d - 1) (j + 1) f (by omega) (by omega) (by omega)
/-! sets by bits -/
def bitsN : Nat → (Nat → Bool) → Nat
  | 0, _ => 0
  | n + 1, p => bitsN n p + (if p n then 2 ^ n else 0)
theorem bitsN_lt (n : Nat) (p : Nat → Bool) : bitsN n p < 2 ^ n := by
  induction n with
  | zero => simp [bitsN]
  | succ n ih => simp only [bitsN, Nat.pow_succ]; split <;> omega
theorem bitsN_or (n : Nat) (p : Nat → Bool) : bitsN n p ||| (if p n then 2 ^ n else 0) = bitsN (n + 1) p := by
  simp only [bitsN]
  split
  · have h := Nat.two_pow_add_eq_or_of_lt (bitsN_lt n p) 1
    rw [Nat.mul_one] at h
    rw [Nat.or_comm, ← h, Nat.add_comm]
  · simp
theorem bitsN_test (n : Nat) (p : Nat → Bool) (i : Nat) : (bitsN n p).testBit i = (decide (i < n) && p i) := by
  induction n with
  | zero => simp [bitsN]
  | succ n ih =>
    rw [← bitsN_or, Nat.testBit_or, ih]
    by_cases h : i = n
    · subst h
      cases hp : p i <;> simp [Nat.testBit_two_pow_self]
    · have h3 : (if p n then 2 ^ n else 0 : Nat).testBit i = false := by
        split
        · exact Nat.testBit_two_pow_of_ne (fun e => h e.symm)
        · simp
      rw [h3]
      by_cases hl : i < n
      · simp [hl, show i < n + 1 by omega]
      · simp [hl, show ¬ i < n + 1 by omega]
theorem bitsN_congr {n : Nat} {p q : Nat → Bool} (h : ∀ i, i < n → p i = q i) : bitsN n p = bitsN n q := by
  induction n with
  | zero => rfl
  | succ n ih => simp only [bitsN]; rw [ih (fun i hi => h i (by omega)), h n (by omega)]
theorem bitsN_31 {n : Nat} {p : Nat → Bool} (h : n ≤ 30) : bitsN n p < 2 ^ 30 := Nat.lt_of_lt_of_le (bitsN_lt n p) (Nat.pow_le_pow_right (by omega) h)
theorem two30 {i n : Nat} (h : i < n) (hn : n ≤ 30) : 2 ^ i < 2 ^ 30 := Nat.pow_lt_pow_right (by omega) (by omega)
theorem L2 : (2 : Int32) = nI 2 := rfl
theorem L3 : (3 : Int32) = nI 3 := rfl
theorem L4 : (4 : Int32) = nI 4 := rfl
theorem L5 : (5 : Int32) = nI 5 := rfl
theorem L6 : (6 : Int32) = nI 6 := rfl
theorem L7 : (7 : Int32) = nI 7 := rfl
theorem L8 : (8 : Int32) = nI 8 := rfl
theorem L9 : (9 : Int32) = nI 9 := rfl
theorem L10 : (10 : Int32) = nI 10 := rfl
theorem L11 : (11 : Int32) = nI 11 := rfl
theorem L12 : (12 : Int32) = nI 12 := rfl
theorem L13 : (13 : Int32) = nI 13 := rfl
theorem L18 : (18 : Int32) = nI 18 := rfl
theorem L19 : (19 : Int32) = nI 19 := rfl
theorem L23 : (23 : Int32) = nI 23 := rfl
theorem L24 : (24 : Int32) = nI 24 := rfl
theorem L31 : (31 : Int32) = nI 31 := rfl
theorem L32 : (32 : Int32) = nI 32 := rfl
theorem L48 : (48 : Int32) = nI 48 := rfl
theorem L57 : (57 : Int32) = nI 57 := rfl
theorem L59 : (59 : Int32) = nI 59 := rfl
theorem L76 : (76 : Int32) = nI 76 := rfl
theorem L96 : (96 : Int32) = nI 96 := rfl
theorem L97 : (97 : Int32) = nI 97 := rfl
theorem L99 : (99 : Int32) = nI 99 := rfl
theorem L100 : (100 : Int32) = nI 100 := rfl
theorem L122 : (122 : Int32) = nI 122 := rfl
theorem L120 : (120 : Int32) = nI 120 := rfl
theorem L200 : (200 : Int32) = nI 200 := rfl
theorem L255 : (255 : Int32) = nI 255 := rfl
theorem L999 : (999 : Int32) = nI 999 := rfl
theorem L9999 : (9999 : Int32) = nI 9999 := rfl
theorem bzp {p : Prop} [Decidable p] : ((if p then (1 : Int32) else 0) = 0) = (¬ p) := by
  by_cases h : p <;> simp [h]
theorem or0 (a : Nat) : nI a ||| (0 : Int32) = nI a := by rw [l0, fa_or, Nat.or_zero]
theorem ckZ1 {β : Type} (k : Option β) : ckZ 1 k = k := rfl
theorem ckZ0 {β : Type} (k : Option β) : ckZ 0 k = k := rfl
theorem ckZp {β : Type} {p : Prop} [Decidable p] (k : Option β) : ckZ (if p then (1 : Int32) else 0) k = k := by
  by_cases h : p <;> simp [h, ckZ]
theorem zc0_e {β : Type} {k : Option β} : zc0 (some ()) k = k := rfl
/-- conditions over numbers -/
theorem leN {a b : Nat} (ha : a < 2 ^ 31) (hb : b < 2 ^ 31) : (nI a ≤ nI b) = (a ≤ b) := propext (nI_leI ha hb)
theorem ltN {a b : Nat} (ha : a < 2 ^ 31) (hb : b < 2 ^ 31) : (nI a < nI b) = (a < b) := propext (nI_ltI ha hb)
theorem eqN {a b : Nat} (ha : a < 2 ^ 31) (hb : b < 2 ^ 31) : (nI a = nI b) = (a = b) := propext (nI_eq ha hb)
theorem le0N {a : Nat} (ha : a < 2 ^ 31) : (nI a ≤ (0 : Int32)) = (a = 0) := by
  rw [l0, leN ha (by omega)]; exact propext (by omega)
theorem lt0N {a : Nat} (ha : a < 2 ^ 31) : ((0 : Int32) < nI a) = (0 < a) := by rw [l0, ltN (by omega) ha]
theorem nlt0 {a : Nat} (ha : a < 2 ^ 31) : (nI a < (0 : Int32)) = False := eq_false (nI_pos ha)
theorem ge0N {a : Nat} (ha : a < 2 ^ 31) : ((0 : Int32) ≤ nI a) = True := eq_true (nI_pos' ha)
theorem eq0N {a : Nat} (ha : a < 2 ^ 31) : (nI a = (0 : Int32)) = (a = 0) := by rw [l0, eqN ha (by omega)]
theorem eq1N {a : Nat} (ha : a < 2 ^ 31) : (nI a = (1 : Int32)) = (a = 1) := by rw [l1, eqN ha (by omega)]
theorem le1N {a : Nat} (ha : a < 2 ^ 31) : ((1 : Int32) ≤ nI a) = (1 ≤ a) := by rw [l1, leN (by omega) ha]
theorem neM1 {a : Nat} (ha : a < 2 ^ 31) : (nI a = (-1 : Int32)) = False := by
  refine eq_false (fun h => ?_)
  have h1 := congrArg Int32.toInt h
  rw [nI_toInt ha] at h1
  have h2 : (-1 : Int32).toInt = -1 := by decide
  omega
theorem subN1 (a : Nat) (h : 0 < a) : nI a - (1 : Int32) = nI (a - 1) := by
  obtain ⟨b, rfl⟩ : ∃ b, a = b + 1 := ⟨a - 1, by omega⟩
  rw [nI_pred]; rfl
theorem divN {a d : Nat} (ha : a < 2 ^ 31) (h0 : 0 < d) (hd : d < 2 ^ 31) : nI a / nI d = nI (a / d) := pk_div ha h0 hd
theorem remN {a d : Nat} (ha : a < 2 ^ 31) (h0 : 0 < d) (hd : d < 2 ^ 31) : nI a - nI a / nI d * nI d = nI (a % d) := pk_rem ha h0 hd
/-- any int is a number below 2^31, or negative -/
theorem iCase (x : Int32) : x < 0 ∨ ∃ a : Nat, a < 2 ^ 31 ∧ x = nI a := by
  by_cases h : x < 0
  · exact Or.inl h
  · exact Or.inr (nI_of h)
theorem ne10 : ((1 : Int32) = 0) = False := eq_false (by decide)
theorem eq00 : ((0 : Int32) = 0) = True := eq_true rfl
theorem ne01 : ((0 : Int32) = 1) = False := eq_false (by decide)
theorem eq11 : ((1 : Int32) = 1) = True := eq_true rfl
