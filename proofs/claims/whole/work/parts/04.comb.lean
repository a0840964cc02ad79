/-! ===== a method as a pure function: reads and writes are checked, loops have fuel; each form with its inversion ===== -/
def FU : Nat := 2000
abbrev kT (cB cI cJ cZ : ClassId) : List (ClassId × FieldType) := [(cB, .byte), (cI, .int), (cJ, .long), (cZ, .boolean)]
def bd {α β : Type} (e : α) (k : α → Option β) : Option β := k e
theorem bd_ {α β : Type} {e : α} {k : α → Option β} {r : β} (h : bd e k = some r) : ∃ x, x = e ∧ k x = some r := ⟨e, rfl, h⟩
def rd {α β : Type} (n : Nat) (f : Nat → α) (i : Int32) (k : α → Option β) : Option β := if i < 0 ∨ n ≤ i.toNatClampNeg then none else k (f i.toNatClampNeg)
theorem rd_ {α β : Type} {n : Nat} {f : Nat → α} {i : Int32} {k : α → Option β} {r : β} (h : rd n f i k = some r) : ∃ v, v = f i.toNatClampNeg ∧ vp_in i n ∧ k v = some r := by
  unfold rd at h
  by_cases c : i < 0 ∨ n ≤ i.toNatClampNeg
  · rw [if_pos c] at h; cases h
  · rw [if_neg c] at h; exact ⟨_, rfl, c, h⟩
def wr {α β : Type} (n : Nat) (i : Int32) (g : α) (k : α → Option β) : Option β := if i < 0 ∨ n ≤ i.toNatClampNeg then none else k g
theorem wr_ {α β : Type} {n : Nat} {g : α} {i : Int32} {k : α → Option β} {r : β} (h : wr n i g k = some r) : ∃ v, v = g ∧ vp_in i n ∧ k v = some r := by
  unfold wr at h
  by_cases c : i < 0 ∨ n ≤ i.toNatClampNeg
  · rw [if_pos c] at h; cases h
  · rw [if_neg c] at h; exact ⟨_, rfl, c, h⟩
def ckI {β : Type} (y : Int32) (k : Option β) : Option β := if y = 0 then none else k
theorem ckI_ {β : Type} {y : Int32} {k : Option β} {r : β} (h : ckI y k = some r) : ¬ y = 0 ∧ k = some r := by
  unfold ckI at h
  by_cases c : y = 0
  · rw [if_pos c] at h; cases h
  · rw [if_neg c] at h; exact ⟨c, h⟩
def ckL {β : Type} (y : Int64) (k : Option β) : Option β := if y = 0 then none else k
theorem ckL_ {β : Type} {y : Int64} {k : Option β} {r : β} (h : ckL y k = some r) : ¬ y = 0 ∧ k = some r := by
  unfold ckL at h
  by_cases c : y = 0
  · rw [if_pos c] at h; cases h
  · rw [if_neg c] at h; exact ⟨c, h⟩
/-- a truth that is returned -/
def ckZ {β : Type} (y : Int32) (k : Option β) : Option β := if y = 0 ∨ y = 1 then k else none
theorem ckZ_ {β : Type} {y : Int32} {k : Option β} {r : β} (h : ckZ y k = some r) : narrow .boolean (.int y) = .int y ∧ k = some r := by
  unfold ckZ at h
  by_cases c : y = 0 ∨ y = 1
  · rw [if_pos c] at h
    refine ⟨?_, h⟩
    rcases c with rfl | rfl <;> rfl
  · rw [if_neg c] at h; cases h
theorem if_t {β : Type} {c : Prop} [Decidable c] {a b : Option β} {r : β} (hc : c) (h : (if c then a else b) = some r) : a = some r := by rw [if_pos hc] at h; exact h
theorem if_f {β : Type} {c : Prop} [Decidable c] {a b : Option β} {r : β} (hc : ¬ c) (h : (if c then a else b) = some r) : b = some r := by rw [if_neg hc] at h; exact h
theorem lp_no {β : Type} {o : Option β} {r : β} (h0 : o = none) (h : o = some r) : False := by rw [h0] at h; cases h
def zc0 {β : Type} (o : Option Unit) (k : Option β) : Option β := match o with
  | some _ => k
  | none => none
theorem zc0_ {β : Type} {o : Option Unit} {k : Option β} {r : β} (h : zc0 o k = some r) : o = some () ∧ k = some r := by
  cases o with
  | none => cases h
  | some a => exact ⟨rfl, h⟩
def zj0 {β : Type} (rest : Option β) (reg : Option β → Option β) : Option β := reg rest
theorem zj0_ {β : Type} {rest : Option β} {reg : Option β → Option β} {r : β} (h : zj0 rest reg = some r) : ∃ K : Option β, (K = some r → rest = some r) ∧ reg K = some r := ⟨rest, fun q => q, h⟩
def zl0 {β : Type} (body : Option β → Option β) : Nat → Option β
  | 0 => none
  | n + 1 => body (zl0 body n)
theorem zl0_ {β : Type} {body : Option β → Option β} {n : Nat} {r : β} (h : zl0 body n = some r) : ∃ K : Nat → Option β, (K 0 = none) ∧ (∀ n, K (n + 1) = some r → body (K n) = some r) ∧ K n = some r := ⟨zl0 body, rfl, fun _ q => q, h⟩
def zc1 {A1 β : Type} (o : Option (A1)) (k : A1 → Option β) : Option β := match o with
  | some a1 => k a1
  | none => none
theorem zc1_ {A1 β : Type} {o : Option (A1)} {k : A1 → Option β} {r : β} (h : zc1 o k = some r) : ∃ (a1 : A1), o = some a1 ∧ k a1 = some r := by
  cases o with
  | none => cases h
  | some q => exact ⟨q, rfl, h⟩
theorem zc1_e {A1 β : Type} {k : A1 → Option β} (a1 : A1) : zc1 (some a1) k = k a1 := rfl
def zj1 {A1 β : Type} (rest : A1 → Option β) (reg : (A1 → Option β) → Option β) : Option β := reg rest
theorem zj1_ {A1 β : Type} {rest : A1 → Option β} {reg : (A1 → Option β) → Option β} {r : β} (h : zj1 rest reg = some r) : ∃ K : A1 → Option β, (∀ (a1 : A1), K a1 = some r → rest a1 = some r) ∧ reg K = some r := ⟨rest, fun a1 q => q, h⟩
def zl1 {A1 β : Type} (body : A1 → (A1 → Option β) → Option β) : Nat → A1 → Option β
  | 0, _ => none
  | n + 1, a1 => body a1 (zl1 body n)
theorem zl1_ {A1 β : Type} {body : A1 → (A1 → Option β) → Option β} {n : Nat} {a1 : A1} {r : β} (h : zl1 body n a1 = some r) : ∃ K : Nat → A1 → Option β, (∀ (a1 : A1), K 0 a1 = none) ∧ (∀ (n : Nat) (a1 : A1), K (n + 1) a1 = some r → body a1 (K n) = some r) ∧ K n a1 = some r := ⟨zl1 body, fun _ => rfl, fun n a1 q => q, h⟩
def zc2 {A1 A2 β : Type} (o : Option (A1 × A2)) (k : A1 → A2 → Option β) : Option β := match o with
  | some (a1, a2) => k a1 a2
  | none => none
theorem zc2_ {A1 A2 β : Type} {o : Option (A1 × A2)} {k : A1 → A2 → Option β} {r : β} (h : zc2 o k = some r) : ∃ (a1 : A1) (a2 : A2), o = some (a1, a2) ∧ k a1 a2 = some r := by
  cases o with
  | none => cases h
  | some q => exact ⟨q.1, q.2, rfl, h⟩
theorem zc2_e {A1 A2 β : Type} {k : A1 → A2 → Option β} (a1 : A1) (a2 : A2) : zc2 (some (a1, a2)) k = k a1 a2 := rfl
def zj2 {A1 A2 β : Type} (rest : A1 → A2 → Option β) (reg : (A1 → A2 → Option β) → Option β) : Option β := reg rest
theorem zj2_ {A1 A2 β : Type} {rest : A1 → A2 → Option β} {reg : (A1 → A2 → Option β) → Option β} {r : β} (h : zj2 rest reg = some r) : ∃ K : A1 → A2 → Option β, (∀ (a1 : A1) (a2 : A2), K a1 a2 = some r → rest a1 a2 = some r) ∧ reg K = some r := ⟨rest, fun a1 a2 q => q, h⟩
def zl2 {A1 A2 β : Type} (body : A1 → A2 → (A1 → A2 → Option β) → Option β) : Nat → A1 → A2 → Option β
  | 0, _, _ => none
  | n + 1, a1, a2 => body a1 a2 (zl2 body n)
theorem zl2_ {A1 A2 β : Type} {body : A1 → A2 → (A1 → A2 → Option β) → Option β} {n : Nat} {a1 : A1} {a2 : A2} {r : β} (h : zl2 body n a1 a2 = some r) : ∃ K : Nat → A1 → A2 → Option β, (∀ (a1 : A1) (a2 : A2), K 0 a1 a2 = none) ∧ (∀ (n : Nat) (a1 : A1) (a2 : A2), K (n + 1) a1 a2 = some r → body a1 a2 (K n) = some r) ∧ K n a1 a2 = some r := ⟨zl2 body, fun _ _ => rfl, fun n a1 a2 q => q, h⟩
def zc3 {A1 A2 A3 β : Type} (o : Option (A1 × A2 × A3)) (k : A1 → A2 → A3 → Option β) : Option β := match o with
  | some (a1, a2, a3) => k a1 a2 a3
  | none => none
theorem zc3_ {A1 A2 A3 β : Type} {o : Option (A1 × A2 × A3)} {k : A1 → A2 → A3 → Option β} {r : β} (h : zc3 o k = some r) : ∃ (a1 : A1) (a2 : A2) (a3 : A3), o = some (a1, a2, a3) ∧ k a1 a2 a3 = some r := by
  cases o with
  | none => cases h
  | some q => exact ⟨q.1, q.2.1, q.2.2, rfl, h⟩
theorem zc3_e {A1 A2 A3 β : Type} {k : A1 → A2 → A3 → Option β} (a1 : A1) (a2 : A2) (a3 : A3) : zc3 (some (a1, a2, a3)) k = k a1 a2 a3 := rfl
def zj3 {A1 A2 A3 β : Type} (rest : A1 → A2 → A3 → Option β) (reg : (A1 → A2 → A3 → Option β) → Option β) : Option β := reg rest
theorem zj3_ {A1 A2 A3 β : Type} {rest : A1 → A2 → A3 → Option β} {reg : (A1 → A2 → A3 → Option β) → Option β} {r : β} (h : zj3 rest reg = some r) : ∃ K : A1 → A2 → A3 → Option β, (∀ (a1 : A1) (a2 : A2) (a3 : A3), K a1 a2 a3 = some r → rest a1 a2 a3 = some r) ∧ reg K = some r := ⟨rest, fun a1 a2 a3 q => q, h⟩
def zl3 {A1 A2 A3 β : Type} (body : A1 → A2 → A3 → (A1 → A2 → A3 → Option β) → Option β) : Nat → A1 → A2 → A3 → Option β
  | 0, _, _, _ => none
  | n + 1, a1, a2, a3 => body a1 a2 a3 (zl3 body n)
theorem zl3_ {A1 A2 A3 β : Type} {body : A1 → A2 → A3 → (A1 → A2 → A3 → Option β) → Option β} {n : Nat} {a1 : A1} {a2 : A2} {a3 : A3} {r : β} (h : zl3 body n a1 a2 a3 = some r) : ∃ K : Nat → A1 → A2 → A3 → Option β, (∀ (a1 : A1) (a2 : A2) (a3 : A3), K 0 a1 a2 a3 = none) ∧ (∀ (n : Nat) (a1 : A1) (a2 : A2) (a3 : A3), K (n + 1) a1 a2 a3 = some r → body a1 a2 a3 (K n) = some r) ∧ K n a1 a2 a3 = some r := ⟨zl3 body, fun _ _ _ => rfl, fun n a1 a2 a3 q => q, h⟩
def zc4 {A1 A2 A3 A4 β : Type} (o : Option (A1 × A2 × A3 × A4)) (k : A1 → A2 → A3 → A4 → Option β) : Option β := match o with
  | some (a1, a2, a3, a4) => k a1 a2 a3 a4
  | none => none
theorem zc4_ {A1 A2 A3 A4 β : Type} {o : Option (A1 × A2 × A3 × A4)} {k : A1 → A2 → A3 → A4 → Option β} {r : β} (h : zc4 o k = some r) : ∃ (a1 : A1) (a2 : A2) (a3 : A3) (a4 : A4), o = some (a1, a2, a3, a4) ∧ k a1 a2 a3 a4 = some r := by
  cases o with
  | none => cases h
  | some q => exact ⟨q.1, q.2.1, q.2.2.1, q.2.2.2, rfl, h⟩
theorem zc4_e {A1 A2 A3 A4 β : Type} {k : A1 → A2 → A3 → A4 → Option β} (a1 : A1) (a2 : A2) (a3 : A3) (a4 : A4) : zc4 (some (a1, a2, a3, a4)) k = k a1 a2 a3 a4 := rfl
def zj4 {A1 A2 A3 A4 β : Type} (rest : A1 → A2 → A3 → A4 → Option β) (reg : (A1 → A2 → A3 → A4 → Option β) → Option β) : Option β := reg rest
theorem zj4_ {A1 A2 A3 A4 β : Type} {rest : A1 → A2 → A3 → A4 → Option β} {reg : (A1 → A2 → A3 → A4 → Option β) → Option β} {r : β} (h : zj4 rest reg = some r) : ∃ K : A1 → A2 → A3 → A4 → Option β, (∀ (a1 : A1) (a2 : A2) (a3 : A3) (a4 : A4), K a1 a2 a3 a4 = some r → rest a1 a2 a3 a4 = some r) ∧ reg K = some r := ⟨rest, fun a1 a2 a3 a4 q => q, h⟩
def zl4 {A1 A2 A3 A4 β : Type} (body : A1 → A2 → A3 → A4 → (A1 → A2 → A3 → A4 → Option β) → Option β) : Nat → A1 → A2 → A3 → A4 → Option β
  | 0, _, _, _, _ => none
  | n + 1, a1, a2, a3, a4 => body a1 a2 a3 a4 (zl4 body n)
theorem zl4_ {A1 A2 A3 A4 β : Type} {body : A1 → A2 → A3 → A4 → (A1 → A2 → A3 → A4 → Option β) → Option β} {n : Nat} {a1 : A1} {a2 : A2} {a3 : A3} {a4 : A4} {r : β} (h : zl4 body n a1 a2 a3 a4 = some r) : ∃ K : Nat → A1 → A2 → A3 → A4 → Option β, (∀ (a1 : A1) (a2 : A2) (a3 : A3) (a4 : A4), K 0 a1 a2 a3 a4 = none) ∧ (∀ (n : Nat) (a1 : A1) (a2 : A2) (a3 : A3) (a4 : A4), K (n + 1) a1 a2 a3 a4 = some r → body a1 a2 a3 a4 (K n) = some r) ∧ K n a1 a2 a3 a4 = some r := ⟨zl4 body, fun _ _ _ _ => rfl, fun n a1 a2 a3 a4 q => q, h⟩
def zc5 {A1 A2 A3 A4 A5 β : Type} (o : Option (A1 × A2 × A3 × A4 × A5)) (k : A1 → A2 → A3 → A4 → A5 → Option β) : Option β := match o with
  | some (a1, a2, a3, a4, a5) => k a1 a2 a3 a4 a5
  | none => none
theorem zc5_ {A1 A2 A3 A4 A5 β : Type} {o : Option (A1 × A2 × A3 × A4 × A5)} {k : A1 → A2 → A3 → A4 → A5 → Option β} {r : β} (h : zc5 o k = some r) : ∃ (a1 : A1) (a2 : A2) (a3 : A3) (a4 : A4) (a5 : A5), o = some (a1, a2, a3, a4, a5) ∧ k a1 a2 a3 a4 a5 = some r := by
  cases o with
  | none => cases h
  | some q => exact ⟨q.1, q.2.1, q.2.2.1, q.2.2.2.1, q.2.2.2.2, rfl, h⟩
theorem zc5_e {A1 A2 A3 A4 A5 β : Type} {k : A1 → A2 → A3 → A4 → A5 → Option β} (a1 : A1) (a2 : A2) (a3 : A3) (a4 : A4) (a5 : A5) : zc5 (some (a1, a2, a3, a4, a5)) k = k a1 a2 a3 a4 a5 := rfl
def zj5 {A1 A2 A3 A4 A5 β : Type} (rest : A1 → A2 → A3 → A4 → A5 → Option β) (reg : (A1 → A2 → A3 → A4 → A5 → Option β) → Option β) : Option β := reg rest
theorem zj5_ {A1 A2 A3 A4 A5 β : Type} {rest : A1 → A2 → A3 → A4 → A5 → Option β} {reg : (A1 → A2 → A3 → A4 → A5 → Option β) → Option β} {r : β} (h : zj5 rest reg = some r) : ∃ K : A1 → A2 → A3 → A4 → A5 → Option β, (∀ (a1 : A1) (a2 : A2) (a3 : A3) (a4 : A4) (a5 : A5), K a1 a2 a3 a4 a5 = some r → rest a1 a2 a3 a4 a5 = some r) ∧ reg K = some r := ⟨rest, fun a1 a2 a3 a4 a5 q => q, h⟩
def zl5 {A1 A2 A3 A4 A5 β : Type} (body : A1 → A2 → A3 → A4 → A5 → (A1 → A2 → A3 → A4 → A5 → Option β) → Option β) : Nat → A1 → A2 → A3 → A4 → A5 → Option β
  | 0, _, _, _, _, _ => none
  | n + 1, a1, a2, a3, a4, a5 => body a1 a2 a3 a4 a5 (zl5 body n)
theorem zl5_ {A1 A2 A3 A4 A5 β : Type} {body : A1 → A2 → A3 → A4 → A5 → (A1 → A2 → A3 → A4 → A5 → Option β) → Option β} {n : Nat} {a1 : A1} {a2 : A2} {a3 : A3} {a4 : A4} {a5 : A5} {r : β} (h : zl5 body n a1 a2 a3 a4 a5 = some r) : ∃ K : Nat → A1 → A2 → A3 → A4 → A5 → Option β, (∀ (a1 : A1) (a2 : A2) (a3 : A3) (a4 : A4) (a5 : A5), K 0 a1 a2 a3 a4 a5 = none) ∧ (∀ (n : Nat) (a1 : A1) (a2 : A2) (a3 : A3) (a4 : A4) (a5 : A5), K (n + 1) a1 a2 a3 a4 a5 = some r → body a1 a2 a3 a4 a5 (K n) = some r) ∧ K n a1 a2 a3 a4 a5 = some r := ⟨zl5 body, fun _ _ _ _ _ => rfl, fun n a1 a2 a3 a4 a5 q => q, h⟩
def zc6 {A1 A2 A3 A4 A5 A6 β : Type} (o : Option (A1 × A2 × A3 × A4 × A5 × A6)) (k : A1 → A2 → A3 → A4 → A5 → A6 → Option β) : Option β := match o with
  | some (a1, a2, a3, a4, a5, a6) => k a1 a2 a3 a4 a5 a6
  | none => none
theorem zc6_ {A1 A2 A3 A4 A5 A6 β : Type} {o : Option (A1 × A2 × A3 × A4 × A5 × A6)} {k : A1 → A2 → A3 → A4 → A5 → A6 → Option β} {r : β} (h : zc6 o k = some r) : ∃ (a1 : A1) (a2 : A2) (a3 : A3) (a4 : A4) (a5 : A5) (a6 : A6), o = some (a1, a2, a3, a4, a5, a6) ∧ k a1 a2 a3 a4 a5 a6 = some r := by
  cases o with
  | none => cases h
  | some q => exact ⟨q.1, q.2.1, q.2.2.1, q.2.2.2.1, q.2.2.2.2.1, q.2.2.2.2.2, rfl, h⟩
theorem zc6_e {A1 A2 A3 A4 A5 A6 β : Type} {k : A1 → A2 → A3 → A4 → A5 → A6 → Option β} (a1 : A1) (a2 : A2) (a3 : A3) (a4 : A4) (a5 : A5) (a6 : A6) : zc6 (some (a1, a2, a3, a4, a5, a6)) k = k a1 a2 a3 a4 a5 a6 := rfl
def zj6 {A1 A2 A3 A4 A5 A6 β : Type} (rest : A1 → A2 → A3 → A4 → A5 → A6 → Option β) (reg : (A1 → A2 → A3 → A4 → A5 → A6 → Option β) → Option β) : Option β := reg rest
theorem zj6_ {A1 A2 A3 A4 A5 A6 β : Type} {rest : A1 → A2 → A3 → A4 → A5 → A6 → Option β} {reg : (A1 → A2 → A3 → A4 → A5 → A6 → Option β) → Option β} {r : β} (h : zj6 rest reg = some r) : ∃ K : A1 → A2 → A3 → A4 → A5 → A6 → Option β, (∀ (a1 : A1) (a2 : A2) (a3 : A3) (a4 : A4) (a5 : A5) (a6 : A6), K a1 a2 a3 a4 a5 a6 = some r → rest a1 a2 a3 a4 a5 a6 = some r) ∧ reg K = some r := ⟨rest, fun a1 a2 a3 a4 a5 a6 q => q, h⟩
def zl6 {A1 A2 A3 A4 A5 A6 β : Type} (body : A1 → A2 → A3 → A4 → A5 → A6 → (A1 → A2 → A3 → A4 → A5 → A6 → Option β) → Option β) : Nat → A1 → A2 → A3 → A4 → A5 → A6 → Option β
  | 0, _, _, _, _, _, _ => none
  | n + 1, a1, a2, a3, a4, a5, a6 => body a1 a2 a3 a4 a5 a6 (zl6 body n)
theorem zl6_ {A1 A2 A3 A4 A5 A6 β : Type} {body : A1 → A2 → A3 → A4 → A5 → A6 → (A1 → A2 → A3 → A4 → A5 → A6 → Option β) → Option β} {n : Nat} {a1 : A1} {a2 : A2} {a3 : A3} {a4 : A4} {a5 : A5} {a6 : A6} {r : β} (h : zl6 body n a1 a2 a3 a4 a5 a6 = some r) : ∃ K : Nat → A1 → A2 → A3 → A4 → A5 → A6 → Option β, (∀ (a1 : A1) (a2 : A2) (a3 : A3) (a4 : A4) (a5 : A5) (a6 : A6), K 0 a1 a2 a3 a4 a5 a6 = none) ∧ (∀ (n : Nat) (a1 : A1) (a2 : A2) (a3 : A3) (a4 : A4) (a5 : A5) (a6 : A6), K (n + 1) a1 a2 a3 a4 a5 a6 = some r → body a1 a2 a3 a4 a5 a6 (K n) = some r) ∧ K n a1 a2 a3 a4 a5 a6 = some r := ⟨zl6 body, fun _ _ _ _ _ _ => rfl, fun n a1 a2 a3 a4 a5 a6 q => q, h⟩
def zc7 {A1 A2 A3 A4 A5 A6 A7 β : Type} (o : Option (A1 × A2 × A3 × A4 × A5 × A6 × A7)) (k : A1 → A2 → A3 → A4 → A5 → A6 → A7 → Option β) : Option β := match o with
  | some (a1, a2, a3, a4, a5, a6, a7) => k a1 a2 a3 a4 a5 a6 a7
  | none => none
theorem zc7_ {A1 A2 A3 A4 A5 A6 A7 β : Type} {o : Option (A1 × A2 × A3 × A4 × A5 × A6 × A7)} {k : A1 → A2 → A3 → A4 → A5 → A6 → A7 → Option β} {r : β} (h : zc7 o k = some r) : ∃ (a1 : A1) (a2 : A2) (a3 : A3) (a4 : A4) (a5 : A5) (a6 : A6) (a7 : A7), o = some (a1, a2, a3, a4, a5, a6, a7) ∧ k a1 a2 a3 a4 a5 a6 a7 = some r := by
  cases o with
  | none => cases h
  | some q => exact ⟨q.1, q.2.1, q.2.2.1, q.2.2.2.1, q.2.2.2.2.1, q.2.2.2.2.2.1, q.2.2.2.2.2.2, rfl, h⟩
theorem zc7_e {A1 A2 A3 A4 A5 A6 A7 β : Type} {k : A1 → A2 → A3 → A4 → A5 → A6 → A7 → Option β} (a1 : A1) (a2 : A2) (a3 : A3) (a4 : A4) (a5 : A5) (a6 : A6) (a7 : A7) : zc7 (some (a1, a2, a3, a4, a5, a6, a7)) k = k a1 a2 a3 a4 a5 a6 a7 := rfl
def zj7 {A1 A2 A3 A4 A5 A6 A7 β : Type} (rest : A1 → A2 → A3 → A4 → A5 → A6 → A7 → Option β) (reg : (A1 → A2 → A3 → A4 → A5 → A6 → A7 → Option β) → Option β) : Option β := reg rest
theorem zj7_ {A1 A2 A3 A4 A5 A6 A7 β : Type} {rest : A1 → A2 → A3 → A4 → A5 → A6 → A7 → Option β} {reg : (A1 → A2 → A3 → A4 → A5 → A6 → A7 → Option β) → Option β} {r : β} (h : zj7 rest reg = some r) : ∃ K : A1 → A2 → A3 → A4 → A5 → A6 → A7 → Option β, (∀ (a1 : A1) (a2 : A2) (a3 : A3) (a4 : A4) (a5 : A5) (a6 : A6) (a7 : A7), K a1 a2 a3 a4 a5 a6 a7 = some r → rest a1 a2 a3 a4 a5 a6 a7 = some r) ∧ reg K = some r := ⟨rest, fun a1 a2 a3 a4 a5 a6 a7 q => q, h⟩
def zl7 {A1 A2 A3 A4 A5 A6 A7 β : Type} (body : A1 → A2 → A3 → A4 → A5 → A6 → A7 → (A1 → A2 → A3 → A4 → A5 → A6 → A7 → Option β) → Option β) : Nat → A1 → A2 → A3 → A4 → A5 → A6 → A7 → Option β
  | 0, _, _, _, _, _, _, _ => none
  | n + 1, a1, a2, a3, a4, a5, a6, a7 => body a1 a2 a3 a4 a5 a6 a7 (zl7 body n)
theorem zl7_ {A1 A2 A3 A4 A5 A6 A7 β : Type} {body : A1 → A2 → A3 → A4 → A5 → A6 → A7 → (A1 → A2 → A3 → A4 → A5 → A6 → A7 → Option β) → Option β} {n : Nat} {a1 : A1} {a2 : A2} {a3 : A3} {a4 : A4} {a5 : A5} {a6 : A6} {a7 : A7} {r : β} (h : zl7 body n a1 a2 a3 a4 a5 a6 a7 = some r) : ∃ K : Nat → A1 → A2 → A3 → A4 → A5 → A6 → A7 → Option β, (∀ (a1 : A1) (a2 : A2) (a3 : A3) (a4 : A4) (a5 : A5) (a6 : A6) (a7 : A7), K 0 a1 a2 a3 a4 a5 a6 a7 = none) ∧ (∀ (n : Nat) (a1 : A1) (a2 : A2) (a3 : A3) (a4 : A4) (a5 : A5) (a6 : A6) (a7 : A7), K (n + 1) a1 a2 a3 a4 a5 a6 a7 = some r → body a1 a2 a3 a4 a5 a6 a7 (K n) = some r) ∧ K n a1 a2 a3 a4 a5 a6 a7 = some r := ⟨zl7 body, fun _ _ _ _ _ _ _ => rfl, fun n a1 a2 a3 a4 a5 a6 a7 q => q, h⟩
def zc8 {A1 A2 A3 A4 A5 A6 A7 A8 β : Type} (o : Option (A1 × A2 × A3 × A4 × A5 × A6 × A7 × A8)) (k : A1 → A2 → A3 → A4 → A5 → A6 → A7 → A8 → Option β) : Option β := match o with
  | some (a1, a2, a3, a4, a5, a6, a7, a8) => k a1 a2 a3 a4 a5 a6 a7 a8
  | none => none
theorem zc8_ {A1 A2 A3 A4 A5 A6 A7 A8 β : Type} {o : Option (A1 × A2 × A3 × A4 × A5 × A6 × A7 × A8)} {k : A1 → A2 → A3 → A4 → A5 → A6 → A7 → A8 → Option β} {r : β} (h : zc8 o k = some r) : ∃ (a1 : A1) (a2 : A2) (a3 : A3) (a4 : A4) (a5 : A5) (a6 : A6) (a7 : A7) (a8 : A8), o = some (a1, a2, a3, a4, a5, a6, a7, a8) ∧ k a1 a2 a3 a4 a5 a6 a7 a8 = some r := by
  cases o with
  | none => cases h
  | some q => exact ⟨q.1, q.2.1, q.2.2.1, q.2.2.2.1, q.2.2.2.2.1, q.2.2.2.2.2.1, q.2.2.2.2.2.2.1, q.2.2.2.2.2.2.2, rfl, h⟩
theorem zc8_e {A1 A2 A3 A4 A5 A6 A7 A8 β : Type} {k : A1 → A2 → A3 → A4 → A5 → A6 → A7 → A8 → Option β} (a1 : A1) (a2 : A2) (a3 : A3) (a4 : A4) (a5 : A5) (a6 : A6) (a7 : A7) (a8 : A8) : zc8 (some (a1, a2, a3, a4, a5, a6, a7, a8)) k = k a1 a2 a3 a4 a5 a6 a7 a8 := rfl
def zj8 {A1 A2 A3 A4 A5 A6 A7 A8 β : Type} (rest : A1 → A2 → A3 → A4 → A5 → A6 → A7 → A8 → Option β) (reg : (A1 → A2 → A3 → A4 → A5 → A6 → A7 → A8 → Option β) → Option β) : Option β := reg rest
theorem zj8_ {A1 A2 A3 A4 A5 A6 A7 A8 β : Type} {rest : A1 → A2 → A3 → A4 → A5 → A6 → A7 → A8 → Option β} {reg : (A1 → A2 → A3 → A4 → A5 → A6 → A7 → A8 → Option β) → Option β} {r : β} (h : zj8 rest reg = some r) : ∃ K : A1 → A2 → A3 → A4 → A5 → A6 → A7 → A8 → Option β, (∀ (a1 : A1) (a2 : A2) (a3 : A3) (a4 : A4) (a5 : A5) (a6 : A6) (a7 : A7) (a8 : A8), K a1 a2 a3 a4 a5 a6 a7 a8 = some r → rest a1 a2 a3 a4 a5 a6 a7 a8 = some r) ∧ reg K = some r := ⟨rest, fun a1 a2 a3 a4 a5 a6 a7 a8 q => q, h⟩
def zl8 {A1 A2 A3 A4 A5 A6 A7 A8 β : Type} (body : A1 → A2 → A3 → A4 → A5 → A6 → A7 → A8 → (A1 → A2 → A3 → A4 → A5 → A6 → A7 → A8 → Option β) → Option β) : Nat → A1 → A2 → A3 → A4 → A5 → A6 → A7 → A8 → Option β
  | 0, _, _, _, _, _, _, _, _ => none
  | n + 1, a1, a2, a3, a4, a5, a6, a7, a8 => body a1 a2 a3 a4 a5 a6 a7 a8 (zl8 body n)
theorem zl8_ {A1 A2 A3 A4 A5 A6 A7 A8 β : Type} {body : A1 → A2 → A3 → A4 → A5 → A6 → A7 → A8 → (A1 → A2 → A3 → A4 → A5 → A6 → A7 → A8 → Option β) → Option β} {n : Nat} {a1 : A1} {a2 : A2} {a3 : A3} {a4 : A4} {a5 : A5} {a6 : A6} {a7 : A7} {a8 : A8} {r : β} (h : zl8 body n a1 a2 a3 a4 a5 a6 a7 a8 = some r) : ∃ K : Nat → A1 → A2 → A3 → A4 → A5 → A6 → A7 → A8 → Option β, (∀ (a1 : A1) (a2 : A2) (a3 : A3) (a4 : A4) (a5 : A5) (a6 : A6) (a7 : A7) (a8 : A8), K 0 a1 a2 a3 a4 a5 a6 a7 a8 = none) ∧ (∀ (n : Nat) (a1 : A1) (a2 : A2) (a3 : A3) (a4 : A4) (a5 : A5) (a6 : A6) (a7 : A7) (a8 : A8), K (n + 1) a1 a2 a3 a4 a5 a6 a7 a8 = some r → body a1 a2 a3 a4 a5 a6 a7 a8 (K n) = some r) ∧ K n a1 a2 a3 a4 a5 a6 a7 a8 = some r := ⟨zl8 body, fun _ _ _ _ _ _ _ _ => rfl, fun n a1 a2 a3 a4 a5 a6 a7 a8 q => q, h⟩
def zc9 {A1 A2 A3 A4 A5 A6 A7 A8 A9 β : Type} (o : Option (A1 × A2 × A3 × A4 × A5 × A6 × A7 × A8 × A9)) (k : A1 → A2 → A3 → A4 → A5 → A6 → A7 → A8 → A9 → Option β) : Option β := match o with
  | some (a1, a2, a3, a4, a5, a6, a7, a8, a9) => k a1 a2 a3 a4 a5 a6 a7 a8 a9
  | none => none
theorem zc9_ {A1 A2 A3 A4 A5 A6 A7 A8 A9 β : Type} {o : Option (A1 × A2 × A3 × A4 × A5 × A6 × A7 × A8 × A9)} {k : A1 → A2 → A3 → A4 → A5 → A6 → A7 → A8 → A9 → Option β} {r : β} (h : zc9 o k = some r) : ∃ (a1 : A1) (a2 : A2) (a3 : A3) (a4 : A4) (a5 : A5) (a6 : A6) (a7 : A7) (a8 : A8) (a9 : A9), o = some (a1, a2, a3, a4, a5, a6, a7, a8, a9) ∧ k a1 a2 a3 a4 a5 a6 a7 a8 a9 = some r := by
  cases o with
  | none => cases h
  | some q => exact ⟨q.1, q.2.1, q.2.2.1, q.2.2.2.1, q.2.2.2.2.1, q.2.2.2.2.2.1, q.2.2.2.2.2.2.1, q.2.2.2.2.2.2.2.1, q.2.2.2.2.2.2.2.2, rfl, h⟩
theorem zc9_e {A1 A2 A3 A4 A5 A6 A7 A8 A9 β : Type} {k : A1 → A2 → A3 → A4 → A5 → A6 → A7 → A8 → A9 → Option β} (a1 : A1) (a2 : A2) (a3 : A3) (a4 : A4) (a5 : A5) (a6 : A6) (a7 : A7) (a8 : A8) (a9 : A9) : zc9 (some (a1, a2, a3, a4, a5, a6, a7, a8, a9)) k = k a1 a2 a3 a4 a5 a6 a7 a8 a9 := rfl
def zj9 {A1 A2 A3 A4 A5 A6 A7 A8 A9 β : Type} (rest : A1 → A2 → A3 → A4 → A5 → A6 → A7 → A8 → A9 → Option β) (reg : (A1 → A2 → A3 → A4 → A5 → A6 → A7 → A8 → A9 → Option β) → Option β) : Option β := reg rest
theorem zj9_ {A1 A2 A3 A4 A5 A6 A7 A8 A9 β : Type} {rest : A1 → A2 → A3 → A4 → A5 → A6 → A7 → A8 → A9 → Option β} {reg : (A1 → A2 → A3 → A4 → A5 → A6 → A7 → A8 → A9 → Option β) → Option β} {r : β} (h : zj9 rest reg = some r) : ∃ K : A1 → A2 → A3 → A4 → A5 → A6 → A7 → A8 → A9 → Option β, (∀ (a1 : A1) (a2 : A2) (a3 : A3) (a4 : A4) (a5 : A5) (a6 : A6) (a7 : A7) (a8 : A8) (a9 : A9), K a1 a2 a3 a4 a5 a6 a7 a8 a9 = some r → rest a1 a2 a3 a4 a5 a6 a7 a8 a9 = some r) ∧ reg K = some r := ⟨rest, fun a1 a2 a3 a4 a5 a6 a7 a8 a9 q => q, h⟩
def zl9 {A1 A2 A3 A4 A5 A6 A7 A8 A9 β : Type} (body : A1 → A2 → A3 → A4 → A5 → A6 → A7 → A8 → A9 → (A1 → A2 → A3 → A4 → A5 → A6 → A7 → A8 → A9 → Option β) → Option β) : Nat → A1 → A2 → A3 → A4 → A5 → A6 → A7 → A8 → A9 → Option β
  | 0, _, _, _, _, _, _, _, _, _ => none
  | n + 1, a1, a2, a3, a4, a5, a6, a7, a8, a9 => body a1 a2 a3 a4 a5 a6 a7 a8 a9 (zl9 body n)
theorem zl9_ {A1 A2 A3 A4 A5 A6 A7 A8 A9 β : Type} {body : A1 → A2 → A3 → A4 → A5 → A6 → A7 → A8 → A9 → (A1 → A2 → A3 → A4 → A5 → A6 → A7 → A8 → A9 → Option β) → Option β} {n : Nat} {a1 : A1} {a2 : A2} {a3 : A3} {a4 : A4} {a5 : A5} {a6 : A6} {a7 : A7} {a8 : A8} {a9 : A9} {r : β} (h : zl9 body n a1 a2 a3 a4 a5 a6 a7 a8 a9 = some r) : ∃ K : Nat → A1 → A2 → A3 → A4 → A5 → A6 → A7 → A8 → A9 → Option β, (∀ (a1 : A1) (a2 : A2) (a3 : A3) (a4 : A4) (a5 : A5) (a6 : A6) (a7 : A7) (a8 : A8) (a9 : A9), K 0 a1 a2 a3 a4 a5 a6 a7 a8 a9 = none) ∧ (∀ (n : Nat) (a1 : A1) (a2 : A2) (a3 : A3) (a4 : A4) (a5 : A5) (a6 : A6) (a7 : A7) (a8 : A8) (a9 : A9), K (n + 1) a1 a2 a3 a4 a5 a6 a7 a8 a9 = some r → body a1 a2 a3 a4 a5 a6 a7 a8 a9 (K n) = some r) ∧ K n a1 a2 a3 a4 a5 a6 a7 a8 a9 = some r := ⟨zl9 body, fun _ _ _ _ _ _ _ _ _ => rfl, fun n a1 a2 a3 a4 a5 a6 a7 a8 a9 q => q, h⟩
