/-! ===== storms: ways, sums, lowest terms ===== -/
def stepL (q p : Nat) : Nat → List Nat → List Nat
  | prev, [] => [prev * p]
  | prev, a :: l => (a * q + prev * p) :: stepL q p a l
def rowL (q p : Nat) : Nat → List Nat
  | 0 => [1]
  | h + 1 => stepL q p 0 (rowL q p h)
def wW (q p h k : Nat) : Nat := (rowL q p h).getD k 0
theorem stepL_get (q p : Nat) : ∀ (l : List Nat) (prev k : Nat), (stepL q p prev l).getD k 0 = l.getD k 0 * q + (if k = 0 then prev else l.getD (k - 1) 0) * p
  | [], prev, 0 => by simp [stepL]
  | [], prev, k + 1 => by simp [stepL]
  | a :: l, prev, 0 => by simp [stepL]
  | a :: l, prev, k + 1 => by
    have h := stepL_get q p l a k
    cases k with
    | zero => simpa [stepL] using h
    | succ k => simpa [stepL] using h
theorem wW_0 (q p h : Nat) : wW q p (h + 1) 0 = wW q p h 0 * q := by
  have := stepL_get q p (rowL q p h) 0 0
  simpa [wW, rowL] using this
theorem wW_s (q p h k : Nat) : wW q p (h + 1) (k + 1) = wW q p h (k + 1) * q + wW q p h k * p := by
  have := stepL_get q p (rowL q p h) 0 (k + 1)
  simpa [wW, rowL] using this
theorem wW_z (q p : Nat) : ∀ h k, h < k → wW q p h k = 0
  | 0, k, hk => by
    obtain ⟨k, rfl⟩ : ∃ n, k = n + 1 := ⟨k - 1, by omega⟩
    simp [wW, rowL]
  | h + 1, k, hk => by
    obtain ⟨k, rfl⟩ : ∃ n, k = n + 1 := ⟨k - 1, by omega⟩
    rw [wW_s, wW_z q p h (k + 1) (by omega), wW_z q p h k (by omega)]; simp
def bn (t : Nat) : Nat → Nat
  | 0 => 1
  | k + 1 => bn t k * (t - k) / (k + 1)
def sumN (f : Nat → Nat) : Nat → Nat
  | 0 => 0
  | n + 1 => sumN f n + f n
theorem sumN_congr {f g : Nat → Nat} {n : Nat} (h : ∀ i, i < n → f i = g i) : sumN f n = sumN g n := by
  induction n with
  | zero => rfl
  | succ n ih => simp only [sumN]; rw [ih (fun i hi => h i (by omega)), h n (by omega)]
def tM (t p k : Nat) : Nat := bn t k * p ^ k * (10 - p) ^ (t - k)
def aM (t p g : Nat) : Nat := sumN (fun k => if g ≤ k then tM t p k else 0) (t + 1)
def cnl (f : Nat) (ab : Nat × Nat) : Nat × Nat := if ab.1 % f = 0 ∧ ab.2 % f = 0 then (ab.1 / f, ab.2 / f) else ab
def cnls : Nat → Nat × Nat → Nat × Nat
  | 0, ab => ab
  | n + 1, ab => cnl 5 (cnl 2 (cnls n ab))
theorem st_W : ∀ t, t < 19 → ∀ p, p < 11 → ∀ k, k < t + 1 → wW (10 - p) p t k = tM t p k := by decide +kernel
theorem st_b : ∀ t, t < 19 → ∀ k, k < 19 → bn t k * (t - k) < 9223372036854775808 := by decide +kernel
theorem st_a : ∀ t, t < 19 → ∀ p, p < 11 → ∀ g, g < t + 2 → aM t p g < 9223372036854775808 := by decide +kernel
theorem st_r : ∀ t, t < 19 → ∀ p, p < 11 → ∀ g, g < t + 2 → cnls t (aM t p g, 10 ^ t) = (aM t p g / Nat.gcd (aM t p g) (10 ^ t), 10 ^ t / Nat.gcd (aM t p g) (10 ^ t)) := by decide +kernel
theorem aM_big {t p g : Nat} (h : t + 1 ≤ g) : aM t p g = aM t p (t + 1) := by
  unfold aM
  exact sumN_congr (fun i hi => by rw [if_neg (by omega), if_neg (by omega)])
theorem st_all {t p g : Nat} (ht : t < 19) (hp : p < 11) : aM t p g < 9223372036854775808 ∧ cnls t (aM t p g, 10 ^ t) = (aM t p g / Nat.gcd (aM t p g) (10 ^ t), 10 ^ t / Nat.gcd (aM t p g) (10 ^ t)) := by
  by_cases h : g < t + 2
  · exact ⟨st_a t ht p hp g h, st_r t ht p hp g h⟩
  · rw [aM_big (by omega)]
    exact ⟨st_a t ht p hp (t + 1) (by omega), st_r t ht p hp (t + 1) (by omega)⟩
