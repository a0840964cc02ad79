/-! ===== counts of bits ===== -/
def cntB (p : Nat → Bool) : Nat → Nat
  | 0 => 0
  | n + 1 => cntB p n + (if p n then 1 else 0)
theorem cntB_le (p : Nat → Bool) (n : Nat) : cntB p n ≤ n := by
  induction n with
  | zero => exact Nat.le_refl _
  | succ n ih => simp only [cntB]; split <;> omega
theorem cntB_congr {p q : Nat → Bool} {n : Nat} (h : ∀ i, i < n → p i = q i) : cntB p n = cntB q n := by
  induction n with
  | zero => rfl
  | succ n ih => simp only [cntB]; rw [ih (fun i hi => h i (by omega)), h n (by omega)]
theorem cntB_add (p : Nat → Bool) (m n : Nat) : cntB p (m + n) = cntB p m + cntB (fun i => p (m + i)) n := by
  induction n with
  | zero => rfl
  | succ n ih =>
    show cntB p (m + n) + (if p (m + n) then 1 else 0) = cntB p m + (cntB (fun i => p (m + i)) n + (if p (m + n) then 1 else 0))
    rw [ih]; omega
theorem cntB_lim {p : Nat → Bool} {Y m : Nat} (h : Y ≤ m) : cntB (fun i => decide (i < Y) && p i) m = cntB p Y := by
  obtain ⟨d, rfl⟩ : ∃ d, m = Y + d := ⟨m - Y, by omega⟩
  rw [cntB_add]
  have e1 : cntB (fun i => decide (i < Y) && p i) Y = cntB p Y := cntB_congr (fun i hi => by simp [hi])
  have e2 : ∀ d, cntB (fun i => decide (Y + i < Y) && p (Y + i)) d = 0 := by
    intro d
    induction d with
    | zero => rfl
    | succ d ih => simp only [cntB, ih, show ¬ (Y + d < Y) by omega, decide_false, Bool.false_and, Bool.false_eq_true, if_false]
  rw [e1, e2]; rfl
theorem cntB_mono {p q : Nat → Bool} (h : ∀ i, p i = true → q i = true) (n : Nat) : cntB p n ≤ cntB q n := by
  induction n with
  | zero => exact Nat.le_refl _
  | succ n ih =>
    simp only [cntB]
    cases hp : p n
    · simp; omega
    · rw [h n hp]; simp; omega
theorem cnt_bits {p : Nat → Bool} {Y : Nat} (h : Y ≤ 24) : cntB (bitsN Y p).testBit 24 = cntB p Y := by
  rw [← cntB_lim (p := p) h]
  exact cntB_congr (fun i _ => bitsN_test Y p i)
theorem v_bitsN {n : Nat} (hb : n < 2 ^ 30) : F_X9_bits (nI n) = some (nI (cntB n.testBit 24)) := by
  unfold F_X9_bits
  refine zl2_for (fun i => nI (cntB n.testBit i)) (fun i => nI i) 24 (fun i hi k => ?_) (fun k => ?_) 24 0 FU rfl (by omega) (by unfold FU; omega)
  · simp (disch := omega) only [hasN, leN, show ¬ 24 ≤ i by omega, zj0, zj1, zj2, zj3, zj4, zj9, bdE, nI_add, pk_mul, pk_sub, rdN, wrN, zc0_e, zc1_e, zc2_e, zc3_e, zc4_e, zc5_e, nI_1, nI_clamp, bzp, ne10, eq00, ne01, eq11, if_true, if_false, or0, ckZ1, ckZ0, ckZp, L2, L3, L4, L5, L6, L7, L8, L9, L10, L11, L12, L13, L18, L19, L23, L24, L32, L48, L57, L59, L76, L96, L97, L99, L100, L122, L120, L200, L999, L9999]
    simp only [cntB]
    cases n.testBit i
    · simp only [Bool.false_eq_true, if_false, l0, nI_add]
    · simp only [if_true, l1, nI_add]
  · simp (disch := omega) only [leN, Nat.le_refl, zj0, zj1, zj2, zj3, zj4, zj9, bdE, nI_add, pk_mul, pk_sub, rdN, wrN, zc0_e, zc1_e, zc2_e, zc3_e, zc4_e, zc5_e, nI_1, nI_clamp, bzp, ne10, eq00, ne01, eq11, if_true, if_false, or0, ckZ1, ckZ0, ckZp, L2, L3, L4, L5, L6, L7, L8, L9, L10, L11, L12, L13, L18, L19, L23, L24, L32, L48, L57, L59, L76, L96, L97, L99, L100, L122, L120, L200, L999, L9999]
theorem v_bitsE {Y : Nat} {p : Nat → Bool} (hY : Y ≤ 24) : F_X9_bits (nI (bitsN Y p)) = some (nI (cntB p Y)) := by
  rw [v_bitsN (bitsN_31 (by omega)), cnt_bits hY]
theorem and_field {k a m : Nat} (ha : a < 2 ^ k) (hm : m < 2 ^ k) (y M : Nat) : (2 ^ k * y + a) &&& (2 ^ k * M + m) = 2 ^ k * (y &&& M) + (a &&& m) := by
  apply Nat.eq_of_testBit_eq
  intro j
  rw [Nat.testBit_and, Nat.testBit_two_pow_mul_add _ ha, Nat.testBit_two_pow_mul_add _ hm, Nat.testBit_two_pow_mul_add _ (Nat.lt_of_le_of_lt Nat.and_le_left ha)]
  split <;> simp [Nat.testBit_and]
theorem and8 {a m : Nat} (ha : a < 256) (hm : m < 256) (y M : Nat) : (256 * y + a) &&& (256 * M + m) = 256 * (y &&& M) + (a &&& m) := and_field (k := 8) ha hm y M
def g1B (a : Nat) : Nat := a - (a / 2 &&& 85)
def g2B (a : Nat) : Nat := (g1B a &&& 51) + (g1B a / 4 &&& 51)
def g3B (a : Nat) : Nat := (g2B a + g2B a / 16) &&& 15
def b8 (a : Nat) : Nat := cntB a.testBit 8
theorem fB1 : ∀ a, a < 256 → ∀ e, e < 2 → (128 * e + a / 2) &&& 85 = a / 2 &&& 85 := by decide +kernel
theorem fB2 : ∀ a, a < 256 → ∀ e, e < 4 → (64 * e + g1B a / 4) &&& 51 = g1B a / 4 &&& 51 := by decide +kernel
theorem fB3 : ∀ a, a < 256 → ∀ e, e < 16 → (16 * e + (g2B a + g2B a / 16)) &&& 15 = g3B a := by decide +kernel
theorem fBs : ∀ a, a < 256 → (a / 2 &&& 85) ≤ a ∧ g1B a < 256 ∧ g2B a < 69 ∧ g3B a = b8 a ∧ b8 a ≤ 8 := by decide +kernel
theorem st1 {a : Nat} (ha : a < 256) (y M : Nat) : (256 * y + a) / 2 &&& (256 * M + 85) = 256 * (y / 2 &&& M) + (a / 2 &&& 85) := by
  rw [show (256 * y + a) / 2 = 256 * (y / 2) + (128 * (y % 2) + a / 2) by omega, and8 (by omega) (by omega), fB1 a ha _ (by omega)]
theorem st2 {a : Nat} (ha : a < 256) (y M : Nat) : (256 * y + g1B a) / 4 &&& (256 * M + 51) = 256 * (y / 4 &&& M) + (g1B a / 4 &&& 51) := by
  have := (fBs a ha).2.1
  rw [show (256 * y + g1B a) / 4 = 256 * (y / 4) + (64 * (y % 4) + g1B a / 4) by omega, and8 (by omega) (by omega), fB2 a ha _ (by omega)]
def bcN (n : Nat) : Nat :=
  let v1 := n - (n / 2 &&& 1431655765)
  let v2 := (v1 &&& 858993459) + (v1 / 4 &&& 858993459)
  let v3 := (v2 + v2 / 16) &&& 252645135
  let v4 := v3 + v3 / 256
  let v5 := v4 + v4 / 65536
  v5 &&& 63
theorem bc3 {a b c : Nat} (ha : a < 256) (hb : b < 256) (hc : c < 256) : bcN (256 * (256 * c + b) + a) = b8 a + b8 b + b8 c := by
  obtain ⟨p1, p2, p3, p4, p5⟩ := fBs a ha
  obtain ⟨q1, q2, q3, q4, q5⟩ := fBs b hb
  obtain ⟨r1, r2, r3, r4, r5⟩ := fBs c hc
  have z1 : c / 2 &&& 21845 = c / 2 &&& 85 := by
    have := st1 hc 0 85
    simpa using this
  have z2 : g1B c &&& 13107 = g1B c &&& 51 := by
    have := and8 r2 (show 51 < 256 by omega) 0 51
    simpa using this
  have z3 : g1B c / 4 &&& 13107 = g1B c / 4 &&& 51 := by
    have := st2 hc 0 51
    simpa using this
  have e1 : (256 * (256 * c + b) + a) / 2 &&& 1431655765 = 256 * (256 * (c / 2 &&& 85) + (b / 2 &&& 85)) + (a / 2 &&& 85) := by
    rw [show (1431655765 : Nat) = 256 * (256 * 21845 + 85) + 85 from rfl, st1 ha, st1 hb, z1]
  have e2 : (256 * (256 * c + b) + a) - (256 * (256 * (c / 2 &&& 85) + (b / 2 &&& 85)) + (a / 2 &&& 85)) = 256 * (256 * g1B c + g1B b) + g1B a := by
    unfold g1B; omega
  have e3 : (256 * (256 * g1B c + g1B b) + g1B a) &&& 858993459 = 256 * (256 * (g1B c &&& 51) + (g1B b &&& 51)) + (g1B a &&& 51) := by
    rw [show (858993459 : Nat) = 256 * (256 * 13107 + 51) + 51 from rfl, and8 p2 (by omega), and8 q2 (by omega), z2]
  have e4 : (256 * (256 * g1B c + g1B b) + g1B a) / 4 &&& 858993459 = 256 * (256 * (g1B c / 4 &&& 51) + (g1B b / 4 &&& 51)) + (g1B a / 4 &&& 51) := by
    rw [show (858993459 : Nat) = 256 * (256 * 13107 + 51) + 51 from rfl, st2 ha, st2 hb, z3]
  have e5 : 256 * (256 * (g1B c &&& 51) + (g1B b &&& 51)) + (g1B a &&& 51) + (256 * (256 * (g1B c / 4 &&& 51) + (g1B b / 4 &&& 51)) + (g1B a / 4 &&& 51)) = 256 * (256 * g2B c + g2B b) + g2B a := by
    unfold g2B; omega
  have e6 : (256 * (256 * g2B c + g2B b) + g2B a) + (256 * (256 * g2B c + g2B b) + g2B a) / 16 = 256 * (256 * (g2B c + g2B c / 16) + (16 * (g2B c % 16) + (g2B b + g2B b / 16))) + (16 * (g2B b % 16) + (g2B a + g2B a / 16)) := by omega
  have z4 : (g2B c + g2B c / 16) &&& 3855 = g3B c := by
    have := and8 (a := g2B c + g2B c / 16) (m := 15) (by omega) (by omega) 0 15
    simpa [g3B] using this
  have hx : g2B c % 16 ≤ 15 ∧ g2B b % 16 ≤ 15 := by omega
  have lt5 : ∀ x, x < 256 → g2B x % 16 < 5 := by decide +kernel
  have w1 := lt5 c hc
  have w2 := lt5 b hb
  have e7 : (256 * (256 * (g2B c + g2B c / 16) + (16 * (g2B c % 16) + (g2B b + g2B b / 16))) + (16 * (g2B b % 16) + (g2B a + g2B a / 16))) &&& 252645135 = 256 * (256 * b8 c + b8 b) + b8 a := by
    rw [show (252645135 : Nat) = 256 * (256 * 3855 + 15) + 15 from rfl, and8 (by omega) (by omega), and8 (by omega) (by omega), z4, fB3 a ha _ (by omega), fB3 b hb _ (by omega), p4, q4, r4]
  have e8 : (256 * (256 * b8 c + b8 b) + b8 a) + (256 * (256 * b8 c + b8 b) + b8 a) / 256 + ((256 * (256 * b8 c + b8 b) + b8 a) + (256 * (256 * b8 c + b8 b) + b8 a) / 256) / 65536 = 64 * (1024 * b8 c + 4 * (b8 b + b8 c)) + (b8 a + b8 b + b8 c) := by omega
  have e9 : ∀ x, x &&& 63 = x % 64 := fun x => Nat.and_two_pow_sub_one_eq_mod x 6
  unfold bcN
  simp only [e1, e2, e3, e4, e5, e6, e7, e8, e9]
  omega
theorem bcN_cnt {n : Nat} (hn : n < 2 ^ 24) : bcN n = cntB n.testBit 24 := by
  have e : n = 256 * (256 * (n / 65536) + n / 256 % 256) + n % 256 := by omega
  have h := bc3 (a := n % 256) (b := n / 256 % 256) (c := n / 65536) (by omega) (by omega) (by omega)
  rw [← e] at h
  rw [h, show 24 = 8 + (8 + 8) from rfl, cntB_add, cntB_add]
  have f1 : b8 (n % 256) = cntB n.testBit 8 := cntB_congr (fun i hi => by
    rw [show (256 : Nat) = 2 ^ 8 from rfl, Nat.testBit_mod_two_pow]; simp [hi])
  have f2 : b8 (n / 256 % 256) = cntB (fun i => n.testBit (8 + i)) 8 := cntB_congr (fun i hi => by
    rw [show (256 : Nat) = 2 ^ 8 from rfl, Nat.testBit_mod_two_pow, Nat.testBit_div_two_pow]; simp [hi, Nat.add_comm])
  have f3 : b8 (n / 65536) = cntB (fun i => n.testBit (8 + (8 + i))) 8 := cntB_congr (fun i hi => by
    rw [show (65536 : Nat) = 2 ^ 16 from rfl, Nat.testBit_div_two_pow]; congr 1; omega)
  rw [f1, f2, f3]; omega
theorem v_bitCount {n : Nat} (hn : n < 2 ^ 24) : F_J6_bitCount_0f7a4 (nI n) = some (nI (cntB n.testBit 24)) := by
  rw [← bcN_cnt hn]
  unfold F_J6_bitCount_0f7a4 bcN
  have h1 : (n / 2 &&& 1431655765) ≤ n := Nat.le_trans Nat.and_le_left (Nat.div_le_self _ _)
  have b1 : n - (n / 2 &&& 1431655765) < 2 ^ 24 := by omega
  generalize hv1 : n - (n / 2 &&& 1431655765) = v1 at b1
  have b2 : (v1 &&& 858993459) + (v1 / 4 &&& 858993459) < 2 ^ 26 := by
    have := Nat.and_le_left (n := v1) (m := 858993459)
    have := Nat.and_le_left (n := v1 / 4) (m := 858993459)
    omega
  simp (disch := omega) only [bdE, show (1431655765 : Int32) = nI 1431655765 from rfl, show (858993459 : Int32) = nI 858993459 from rfl, show (252645135 : Int32) = nI 252645135 from rfl, show (63 : Int32) = nI 63 from rfl, pk_ushrN (show n < 2 ^ 32 by omega) (1 : Int32) 1 (by decide), fa_and, pk_sub h1, show n / 2 ^ 1 = n / 2 from rfl, pk_sub, hv1]
  rw [pk_ushrN (show v1 < 2 ^ 32 by omega) (2 : Int32) 2 (by decide), fa_and, nI_add]
  generalize hv2 : (v1 &&& 858993459) + (v1 / 2 ^ 2 &&& 858993459) = v2
  have hv2' : (v1 &&& 858993459) + (v1 / 4 &&& 858993459) = v2 := hv2
  rw [hv2'] at b2
  rw [pk_ushrN (show v2 < 2 ^ 32 by omega) (4 : Int32) 4 (by decide), nI_add, fa_and]
  have b3 : (v2 + v2 / 2 ^ 4 &&& 252645135) < 2 ^ 28 := by
    have := Nat.and_le_left (n := v2 + v2 / 2 ^ 4) (m := 252645135)
    omega
  generalize hv3 : (v2 + v2 / 2 ^ 4 &&& 252645135) = v3 at b3
  have hv3' : (v2 + v2 / 16 &&& 252645135) = v3 := hv3
  try rw [hv3']
  rw [pk_ushrN (show v3 < 2 ^ 32 by omega) (8 : Int32) 8 (by decide), nI_add, pk_ushrN (show v3 + v3 / 2 ^ 8 < 2 ^ 32 by omega) (16 : Int32) 16 (by decide), nI_add, fa_and]
theorem v_bc {Y : Nat} {p : Nat → Bool} (hY : Y ≤ 24) : F_J6_bitCount_0f7a4 (nI (bitsN Y p)) = some (nI (cntB p Y)) := by
  rw [v_bitCount (Nat.lt_of_lt_of_le (bitsN_lt Y p) (Nat.pow_le_pow_right (by omega) hY)), cnt_bits hY]
/-! ===== guard ===== -/
def gBest (w : Nat → Nat) : Nat → Nat
  | 0 => 0
  | n + 1 => if w (gBest w n) < w (n + 1) then n + 1 else gBest w n
theorem gBest_le (w : Nat → Nat) (n : Nat) : gBest w n ≤ n := by
  induction n with
  | zero => exact Nat.le_refl _
  | succ n ih => simp only [gBest]; split <;> omega
theorem guard_a {Y : Nat} {w B : Nat → Nat} {F G : Int32 → Option Int32} {p2 : Int32} (h4 : 4 ≤ Y) (hY : Y ≤ 24) (k1 : ∀ y, y < 24 → F (nI y) = some (nI (B y))) (k3 : ∀ y, G (nI (B y)) = some (nI (w y))) (hwl : ∀ y, w y ≤ 6) :
    zl3 (fun x9 x10 x11 ag12 => if nI Y ≤ x11 then (if p2 = 0 then (some x9) else (some x10)) else (zc1 (F x11) (fun v15 => zc1 (G v15) (fun v17 => zc1 (G x10) (fun v19 => if v17 ≤ v19 then (bd (x11 + (1 : Int32)) (fun v22 => ag12 x9 x10 v22)) else (bd (x11 + (1 : Int32)) (fun v23 => ag12 x11 v15 v23))))))) FU (0 : Int32) (nI (B 0)) (1 : Int32) = some (if p2 = 0 then nI (gBest w (Y - 1)) else nI (B (gBest w (Y - 1)))) := by
  refine zl3_for (fun i => nI (gBest w i)) (fun i => nI (B (gBest w i))) (fun i => nI (i + 1)) (Y - 1) (fun i hi k => ?_) (fun k => ?_) (Y - 1) 0 FU (Nat.sub_zero _).symm (by omega) (by unfold FU; omega)
  · have g0 := gBest_le w i
    have g1 := hwl (i + 1)
    have g2 := hwl (gBest w i)
    simp (disch := omega) only [leN, show ¬ Y ≤ i + 1 by omega, if_false, k1, k3, zc1_e, bdE, nI_1, gBest]
    by_cases hx : w (gBest w i) < w (i + 1)
    · rw [if_neg (by omega)]; simp only [hx, if_true]
    · rw [if_pos (by omega)]; simp only [hx, if_false]
  · simp (disch := omega) only [leN, show Y ≤ Y - 1 + 1 by omega, if_true]
    split <;> rfl
theorem guard_b {Y : Nat} {w B : Nat → Nat} {F G : Int32 → Option Int32} {p2 : Int32} (h4 : 4 ≤ Y) (hY : Y ≤ 24) (k1 : ∀ y, y < 24 → F (nI y) = some (nI (B y))) (k3 : ∀ y, G (nI (B y)) = some (nI (w y))) (hwl : ∀ y, w y ≤ 6) :
    zl2 (fun x7 x8 ag9 => if nI Y ≤ x8 then (if p2 = 0 then (some x7) else (zc1 (F x7) (fun v12 => some v12))) else (zc1 (F x8) (fun v14 => zc1 (G v14) (fun v16 => zc1 (F x7) (fun v18 => zc1 (G v18) (fun v20 => if v16 ≤ v20 then (bd (x8 + (1 : Int32)) (fun v23 => ag9 x7 v23)) else (bd (x8 + (1 : Int32)) (fun v24 => ag9 x8 v24)))))))) FU (0 : Int32) (1 : Int32) = some (if p2 = 0 then nI (gBest w (Y - 1)) else nI (B (gBest w (Y - 1)))) := by
  refine zl2_for (fun i => nI (gBest w i)) (fun i => nI (i + 1)) (Y - 1) (fun i hi k => ?_) (fun k => ?_) (Y - 1) 0 FU (Nat.sub_zero _).symm (by omega) (by unfold FU; omega)
  · have g0 := gBest_le w i
    have g1 := hwl (i + 1)
    have g2 := hwl (gBest w i)
    simp (disch := omega) only [leN, show ¬ Y ≤ i + 1 by omega, if_false, k1, k3, zc1_e, bdE, nI_1, gBest]
    by_cases hx : w (gBest w i) < w (i + 1)
    · rw [if_neg (by omega)]; simp only [hx, if_true]
    · rw [if_pos (by omega)]; simp only [hx, if_false]
  · have g0 := gBest_le w (Y - 1)
    simp (disch := omega) only [leN, show Y ≤ Y - 1 + 1 by omega, if_true, k1, zc1_e]
    split <;> rfl
theorem b_guard {T : TA} {N : NA} {yards seeps children hours filled tl : Int32} {tides seepYard seepSize growth level kind childYard pace ear size yard oranges : Nat → Int32} {p1 p2 : Int32} (hT : okT T) (h1 : rT yards seeps children tides seepYard seepSize growth level kind childYard pace ear T) (h2 : rN hours filled tl size yard oranges T N)
    {my ms mc : Int32} {row mt mseeps mk mp me : Nat → Int32} (h3 : mT my ms mc row mt mseeps mk mp me T) (h4 : mN 0 row T N) : ∃ r, F_X8_guard yards seeps seepYard filled p1 p2 = some r ∧ F_X9_guard my ms row mseeps p1 p2 = some r := by
  obtain ⟨a1, a2, a3, a4, a5, a6, a7⟩ := hT
  unfold F_X8_guard F_X9_guard
  rw [v_isWithin p1, v_isWithin p2, W0', W9, W1, v_in p1, v_in p2]
  simp only [zc1_e]
  by_cases hc : (0 : Int32) ≤ p1 ∧ p1 ≤ (9 : Int32)
  · obtain ⟨e, e1, e2, rfl⟩ := inNat (a := 0) (b := 9) (by omega) hc (by omega)
    rw [if_pos hc]
    by_cases hd : (0 : Int32) ≤ p2 ∧ p2 ≤ (1 : Int32)
    · rw [if_pos hd]
      simp only [ne10, if_false]
      have hb := bitsN_31 (n := tS T) (p := nF N) (by omega)
      have k1 : ∀ y, y < 24 → F_X3_heardFrom seeps seepYard filled (nI y) (nI e) = some (nI (bitsN (tS T) (heardP (bitsN (tS T) (nF N)) (tSy T) y e))) := fun y hy => by
        rw [show seeps = nI (tS T) from h1.2.1, show filled = _ from h2.2.1]
        exact v_heardFrom a3 (by omega) (by omega) (by omega) (fun s hs => ⟨(h1.2.2.2.2.1 s hs).1, by have := (a6 s hs).1; omega⟩)
      have k2 : ∀ y, y < 24 → F_X9_heardAt ms row mseeps (0 : Int32) (nI y) (nI e) = some (nI (bitsN (tS T) (heardP (bitsN (tS T) (nF N)) (tSy T) y e))) := fun y hy => by
        rw [show ms = nI (tS T) from h3.2.1]
        exact v_heardAt (base := 0) a3 (by omega) (by omega) h4.2.1 (by omega) (by omega) (fun s hs => ⟨(h3.2.2.2.2.1 s hs).1, by have := (a6 s hs).1; omega⟩)
      have k3 : ∀ y, F_J6_bitCount_0f7a4 (nI (bitsN (tS T) (heardP (bitsN (tS T) (nF N)) (tSy T) y e))) = some (nI (cntB (heardP (bitsN (tS T) (nF N)) (tSy T) y e) (tS T))) := fun y => v_bc (by omega)
      have k4 : ∀ y, F_X9_bits (nI (bitsN (tS T) (heardP (bitsN (tS T) (nF N)) (tSy T) y e))) = some (nI (cntB (heardP (bitsN (tS T) (nF N)) (tSy T) y e) (tS T))) := fun y => v_bitsE (by omega)
      have hwl : ∀ y, cntB (heardP (bitsN (tS T) (nF N)) (tSy T) y e) (tS T) ≤ 6 := fun y => Nat.le_trans (cntB_le _ _) a3
      have k0 : F_X3_heardFrom seeps seepYard filled (0 : Int32) (nI e) = some (nI (bitsN (tS T) (heardP (bitsN (tS T) (nF N)) (tSy T) 0 e))) := k1 0 (by omega)
      rw [k0, zc1_e, show yards = nI (tY T) from h1.1, show my = nI (tY T) from h3.1]
      exact ⟨_, guard_a (w := fun y => cntB (heardP (bitsN (tS T) (nF N)) (tSy T) y e) (tS T)) (B := fun y => bitsN (tS T) (heardP (bitsN (tS T) (nF N)) (tSy T) y e)) (F := fun y => F_X3_heardFrom seeps seepYard filled y (nI e)) a1 a2 k1 k3 hwl, guard_b (w := fun y => cntB (heardP (bitsN (tS T) (nF N)) (tSy T) y e) (tS T)) (B := fun y => bitsN (tS T) (heardP (bitsN (tS T) (nF N)) (tSy T) y e)) (F := fun y => F_X9_heardAt ms row mseeps (0 : Int32) y (nI e)) a1 a2 k2 k4 hwl⟩
    · rw [if_neg hd]
      simp only [ne10, if_false, eq00, if_true]
      exact ⟨_, rfl, rfl⟩
  · rw [if_neg hc]
    simp only [eq00, if_true]
    exact ⟨_, rfl, rfl⟩
