/-! ===== rows of men: permutations by number ===== -/
def fac : Nat → Nat
  | 0 => 1
  | n + 1 => (n + 1) * fac n
def unrank : Nat → Nat → List Nat → List Nat
  | 0, _, _ => []
  | n + 1, v, l => l.getD (v / fac n) 0 :: unrank n (v % fac n) (l.eraseIdx (v / fac n))
def Rp (m v i : Nat) : Nat := (unrank m v (List.range m)).getD i 0
def plcF (r : Nat → Nat) : Nat → Nat
  | 0 => 0
  | n + 1 => if r n < r (n + 1) then n else plcF r n
def othF (r : Nat → Nat) (x : Nat) : Nat → Nat
  | 0 => 0
  | n + 1 => if x < r (n + 1) then n + 1 else othF r x n
abbrev plc (m v : Nat) : Nat := plcF (Rp m v) (m - 1)
abbrev oth (m v : Nat) : Nat := othF (Rp m v) (Rp m v (plc m v)) (m - 1)
def swF (f : Nat → Nat) (p o i : Nat) : Nat := if i = p then f o else if i = o then f p else f i
def nxF (m : Nat) (f : Nat → Nat) (p o i : Nat) : Nat := if i ≤ p then swF f p o i else swF f p o (p + m - i)
theorem pm_na : ∀ m, m < 6 → 2 ≤ m → ∀ v, v < 120 → v + 1 < fac m → plc m v + 1 < m ∧ Rp m v (plc m v) ≤ Rp m v (plc m v + 1) := by decide +kernel
theorem pm_nb' : ∀ m, m < 6 → 2 ≤ m → ∀ v, v < 120 → v + 1 < fac m → ∀ j, j < m → (!decide (plc m v < j) || (!decide (j + 1 < m) || decide (Rp m v (j + 1) < Rp m v j))) = true := by decide +kernel
theorem pm_nb {m v j : Nat} (hm : m < 6) (h2 : 2 ≤ m) (hv : v < 120) (hv' : v + 1 < fac m) (hp : plc m v < j) (hj : j + 1 < m) : Rp m v (j + 1) < Rp m v j := by
  have := pm_nb' m hm h2 v hv hv' j (by omega)
  simpa [hp, hj] using this
theorem pm_nc : ∀ m, m < 6 → 2 ≤ m → ∀ v, v < 120 → v + 1 < fac m → plc m v < oth m v ∧ oth m v < m ∧ Rp m v (plc m v) ≤ Rp m v (oth m v) := by decide +kernel
theorem pm_nd' : ∀ m, m < 6 → 2 ≤ m → ∀ v, v < 120 → v + 1 < fac m → ∀ j, j < m → (!decide (oth m v < j) || decide (Rp m v j < Rp m v (plc m v))) = true := by decide +kernel
theorem pm_nd {m v j : Nat} (hm : m < 6) (h2 : 2 ≤ m) (hv : v < 120) (hv' : v + 1 < fac m) (hj : j < m) (ho : oth m v < j) : Rp m v j < Rp m v (plc m v) := by
  have := pm_nd' m hm h2 v hv hv' j hj
  simpa [ho] using this
theorem pm_ne : ∀ m, m < 6 → 2 ≤ m → ∀ v, v < 120 → v + 1 < fac m → ∀ i, i < m → Rp m (v + 1) i = nxF m (Rp m v) (plc m v) (oth m v) i := by decide +kernel
theorem pm_last : ∀ m, m < 6 → ∀ j, j < m → j + 1 < m → Rp m (fac m - 1) (j + 1) < Rp m (fac m - 1) j := by decide +kernel
theorem pm_first : ∀ m, m < 6 → ∀ i, i < m → Rp m 0 i = i := by decide +kernel
theorem pm_lt : ∀ m, m < 6 → ∀ v, v < 120 → v < fac m → ∀ i, i < m → Rp m v i < m := by decide +kernel
def restN (m v : Nat) : Nat → Nat
  | 0 => v
  | k + 1 => restN m v k % fac (m - 1 - k)
def lft (m v k : Nat) : Nat → Bool := fun j => !anyQ (fun i => decide (j = Rp m v i)) k
theorem pm_ra : ∀ m, m < 6 → ∀ v, v < 120 → v < fac m → ∀ k, k < m → lft m v k (Rp m v k) = true ∧ cntB (lft m v k) (Rp m v k) = restN m v k / fac (m - 1 - k) := by decide +kernel
theorem pm_rb : ∀ m, m < 6 → ∀ v, v < 120 → v < fac m → ∀ k, k < m → ∀ j, j < Rp m v k → (!lft m v k j || decide (cntB (lft m v k) j < restN m v k / fac (m - 1 - k))) = true := by decide +kernel
theorem restN_le (m v k : Nat) : restN m v k ≤ v := by
  induction k with
  | zero => exact Nat.le_refl _
  | succ k ih => exact Nat.le_trans (Nat.mod_le _ _) ih
theorem fac_pos (n : Nat) : 0 < fac n := by
  induction n with
  | zero => decide
  | succ n ih => exact Nat.mul_pos (by omega) ih
theorem fac_le {m : Nat} (h : m ≤ 5) : fac m ≤ 120 := by
  rcases (show m = 0 ∨ m = 1 ∨ m = 2 ∨ m = 3 ∨ m = 4 ∨ m = 5 by omega) with rfl | rfl | rfl | rfl | rfl | rfl <;> decide
