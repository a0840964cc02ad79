/-! ===== storms, alike ===== -/
theorem cmpEq (x y : Int64) : (lg_cmp x y = 0) = (x = y) := by
  unfold lg_cmp
  by_cases h : x > y
  · rw [if_pos h]
    refine propext ⟨fun a => absurd a (by decide), fun e => ?_⟩
    subst e
    have := Int64.lt_iff_toInt_lt.mp h
    omega
  · rw [if_neg h]
    by_cases e : x = y
    · rw [if_pos e]; exact propext ⟨fun _ => e, fun _ => rfl⟩
    · rw [if_neg e]; exact propext ⟨fun a => absurd a (by decide), fun a => absurd a e⟩
theorem lEq0 {a : Nat} (ha : a < 9223372036854775808) : (lN a = (0 : Int64)) = (a = 0) := by
  rw [show (0 : Int64) = lN 0 from rfl]; exact propext (pk_lEQ ha (by decide))
theorem ckLp {β : Type} {n : Nat} (h : 0 < n) (hn : n < 9223372036854775808) (k : Option β) : ckL (lN n) k = k := by
  unfold ckL
  rw [if_neg (by rw [lEq0 hn]; omega)]
theorem v_fillL {arr : Nat → Int64} : ∃ g, F_J7_fill_d0a16 arr 19 (0 : Int64) = some g ∧ ∀ k, k < 19 → g k = 0 := by
  unfold F_J7_fill_d0a16
  rw [bdE, show Int32.ofNat 19 = nI 19 from rfl]
  refine zl2_inv (fun i x h => x = nI i ∧ ∀ k, k < i → h k = 0) 19 (fun i x h hi hI => ?_) (fun x h hI k => ?_) 19 0 FU _ _ rfl (by omega) (by unfold FU; omega) ⟨rfl, fun k hk => by omega⟩
  · obtain ⟨rfl, i2⟩ := hI
    refine ⟨nI (i + 1), vp_updL h i 0, ⟨rfl, fun k hk => ?_⟩, fun k => ?_⟩
    · by_cases e : k = i
      · rw [e, pk_uLs]
      · rw [pk_uLn e]; exact i2 k (by omega)
    · simp (disch := omega) only [leN, show ¬ 19 ≤ i by omega, if_false, wrN, nI_clamp, bdE, nI_1]
  · obtain ⟨rfl, i2⟩ := hI
    rw [if_pos (nI_le (Nat.le_refl _) (by omega))]
    exact ⟨_, rfl, i2⟩
theorem v_hour {p h : Nat} {arr : Nat → Int64} (hp : p ≤ 10) (hh : h < 18) (ha : ∀ k, k < 19 → arr k = lN (wW (10 - p) p h k)) {β : Type} :
    ∃ g, (∀ k, k < 19 → g k = lN (wW (10 - p) p (h + 1) k)) ∧ ∀ K : (Nat → Int64) → Option β, zl2 (fun x10 h11 ag12 => if x10 ≤ 0 then (rd 19 h11 (0 : Int32) (fun v14 => bd (v14 * (((10 : Int32) - nI p).toInt64)) (fun v16 => wr 19 (0 : Int32) (vp_updL h11 ((0 : Int32)).toNatClampNeg v16) (fun g17 => K g17)))) else (rd 19 h11 x10 (fun v20 => rd 19 h11 (x10 - (1 : Int32)) (fun v22 => bd ((v20 * (((10 : Int32) - nI p).toInt64)) + (v22 * ((nI p).toInt64))) (fun v24 => wr 19 x10 (vp_updL h11 (x10).toNatClampNeg v24) (fun g25 => bd (x10 + (-1 : Int32)) (fun v27 => ag12 v27 g25))))))) FU (nI (h + 1)) arr = K g := by
  have e10 : ((10 : Int32) - nI p).toInt64 = lN (10 - p) := by rw [show (10 : Int32) = nI 10 from rfl, pk_sub hp, nI_l (by omega)]
  have ep : (nI p).toInt64 = lN p := nI_l (by omega)
  rw [e10, ep]
  obtain ⟨x, g, ⟨i1, i2⟩, hk⟩ := zl2_ex (κ := (Nat → Int64) → Option β) (β := β) (body := fun K (x10 : Int32) (h11 : Nat → Int64) ag12 => if x10 ≤ 0 then (rd 19 h11 (0 : Int32) (fun v14 => bd (v14 * (lN (10 - p))) (fun v16 => wr 19 (0 : Int32) (vp_updL h11 ((0 : Int32)).toNatClampNeg v16) (fun g17 => K g17)))) else (rd 19 h11 x10 (fun v20 => rd 19 h11 (x10 - (1 : Int32)) (fun v22 => bd ((v20 * (lN (10 - p))) + (v22 * (lN p))) (fun v24 => wr 19 x10 (vp_updL h11 (x10).toNatClampNeg v24) (fun g25 => bd (x10 + (-1 : Int32)) (fun v27 => ag12 v27 g25))))))) (fun j x g => x = nI (h + 1 - j) ∧ ∀ k, k < 19 → g k = lN (if h + 1 - j < k then wW (10 - p) p (h + 1) k else wW (10 - p) p h k)) (h + 1) (fun j x g hj hI => by
    obtain ⟨rfl, i2⟩ := hI
    obtain ⟨c, hc⟩ : ∃ c, h + 1 - j = c + 1 := ⟨h - j, by omega⟩
    have g1 := i2 (c + 1) (by omega)
    have g2 := i2 c (by omega)
    rw [if_neg (by omega)] at g1 g2
    refine ⟨nI c, vp_updL g (c + 1) (lN (wW (10 - p) p (h + 1) (c + 1))), ⟨by rw [show h + 1 - (j + 1) = c by omega], fun k hk => ?_⟩, fun q k => ?_⟩
    · by_cases e : k = c + 1
      · rw [e, pk_uLs, if_pos (by omega)]
      · rw [pk_uLn e, i2 k hk]
        by_cases e2 : h + 1 - j < k
        · rw [if_pos e2, if_pos (by omega)]
        · rw [if_neg e2, if_neg (by omega)]
    · rw [hc]
      simp (disch := omega) only [le0N, show ¬ c + 1 = 0 by omega, if_false, rdN, g1, subN1, Nat.add_sub_cancel, g2, lN_mul, lN_add, bdE, wrN, nI_clamp, decN, ← wW_s]) (h + 1) 0 (nI (h + 1)) arr (Nat.sub_zero _).symm (by omega) ⟨rfl, fun k hk => by
        rw [ha k hk]
        by_cases e : h + 1 - 0 < k
        · rw [if_pos e, wW_z _ _ _ _ (by omega), wW_z _ _ _ _ (by omega)]
        · rw [if_neg e]⟩
  refine ⟨vp_updL g 0 (lN (wW (10 - p) p (h + 1) 0)), fun k hk => ?_, fun K => ?_⟩
  · by_cases e : k = 0
    · rw [e, pk_uLs]
    · rw [pk_uLn e, i2 k hk, if_pos (by omega)]
  · obtain ⟨k, hk⟩ := hk K FU (by unfold FU; omega)
    have g0 := i2 0 (by omega)
    rw [if_neg (by omega)] at g0
    rw [hk, i1, show h + 1 - (h + 1) = 0 by omega, if_pos (show nI 0 ≤ (0 : Int32) by decide)]
    simp (disch := omega) only [show (0 : Int32) = nI 0 from rfl, rdN, g0, lN_mul, bdE, wrN, nI_clamp, ← wW_0]
theorem v_countWays {t p : Nat} {arr : Nat → Int64} (ht : t ≤ 18) (hp : p ≤ 10) : ∃ g, F_X5_countWays arr (nI t) (nI p) = some g ∧ ∀ k, k < 19 → g k = lN (wW (10 - p) p t k) := by
  obtain ⟨g0, f1, f2⟩ := v_fillL (arr := arr)
  unfold F_X5_countWays
  rw [f1, zc1_e]
  rw [show ∀ k : (Nat → Int64) → Option (Nat → Int64), wr 19 (0 : Int32) (vp_updL g0 (0 : Int32).toNatClampNeg (1 : Int64)) k = k (vp_updL g0 0 (1 : Int64)) from fun k => by rw [show (0 : Int32) = nI 0 from rfl, wrN (by omega) (by omega), nI_clamp (by omega)]]
  refine zl2_inv (fun i x g => x = nI (i + 1) ∧ ∀ k, k < 19 → g k = lN (wW (10 - p) p i k)) t (fun i x g hi hI => ?_) (fun x g hI k => ?_) t 0 FU _ _ (Nat.sub_zero _).symm (by omega) (by unfold FU; omega) ⟨rfl, fun k hk => ?_⟩
  · obtain ⟨rfl, i2⟩ := hI
    obtain ⟨g', y1, y2⟩ := v_hour (h := i) (β := Nat → Int64) hp (by omega) i2
    refine ⟨nI (i + 1 + 1), g', ⟨rfl, y1⟩, fun k => ?_⟩
    rw [if_neg (nI_nlt (by omega) (by omega)), if_neg (by rw [show (18 : Int32) = nI 18 from rfl, ltN (by omega) (by omega)]; omega), y2]
    rw [bdE, nI_1]
  · obtain ⟨rfl, i2⟩ := hI
    rw [if_pos (nI_lt (by omega) (by omega))]
    exact ⟨_, rfl, i2⟩
  · by_cases e : k = 0
    · rw [e, pk_uLs]; rfl
    · rw [pk_uLn e, f2 k hk, wW_z _ _ _ _ (by omega)]; rfl
theorem cnl_le (f : Nat) (ab : Nat × Nat) : (cnl f ab).1 ≤ ab.1 ∧ (cnl f ab).2 ≤ ab.2 := by
  unfold cnl
  split
  · exact ⟨Nat.div_le_self _ _, Nat.div_le_self _ _⟩
  · exact ⟨Nat.le_refl _, Nat.le_refl _⟩
theorem cnls_le (n : Nat) (ab : Nat × Nat) : (cnls n ab).1 ≤ ab.1 ∧ (cnls n ab).2 ≤ ab.2 := by
  induction n with
  | zero => exact ⟨Nat.le_refl _, Nat.le_refl _⟩
  | succ n ih =>
    have h1 := cnl_le 2 (cnls n ab)
    have h2 := cnl_le 5 (cnl 2 (cnls n ab))
    simp only [cnls]
    omega
theorem v_cancel {a b f : Nat} (ha : a < 9223372036854775808) (hb : b < 9223372036854775808) (hf : 0 < f) (hf2 : f < 2 ^ 30) : F_X5_cancel (lN a) (lN b) (nI f) = some (lN (cnl f (a, b)).1, lN (cnl f (a, b)).2) := by
  unfold F_X5_cancel
  have hr1 : a % f < f := Nat.mod_lt _ hf
  have hr2 : b % f < f := Nat.mod_lt _ hf
  rw [if_neg (by rw [le0N (by omega)]; omega), nI_l (by omega)]
  rw [pk_lRem ha hf (by omega), pk_lRem hb hf (by omega), pk_lDiv ha hf (by omega), pk_lDiv hb hf (by omega)]
  simp (disch := omega) only [ckLp, cmpEq, lEq0, bdE]
  unfold cnl
  by_cases h1 : a % f = 0
  · by_cases h2 : b % f = 0
    · rw [if_pos h1, if_pos h2, if_pos ⟨h1, h2⟩]
    · rw [if_pos h1, if_neg h2, if_neg (fun h => h2 h.2)]
  · rw [if_neg h1, if_neg (fun h => h1 h.1)]
