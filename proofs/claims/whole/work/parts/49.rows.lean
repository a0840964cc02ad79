/-! ===== the next row of men; rows by number ===== -/
theorem zl4_inv {A1 A2 A3 A4 β : Type} {body : A1 → A2 → A3 → A4 → (A1 → A2 → A3 → A4 → Option β) → Option β} (I : Nat → A1 → A2 → A3 → A4 → Prop) (N : Nat) {P : β → Prop} (hs : ∀ i a1 a2 a3 a4, i < N → I i a1 a2 a3 a4 → ∃ b1 b2 b3 b4, I (i + 1) b1 b2 b3 b4 ∧ ∀ k, body a1 a2 a3 a4 k = k b1 b2 b3 b4) (hx : ∀ a1 a2 a3 a4, I N a1 a2 a3 a4 → ∀ k, ∃ r, body a1 a2 a3 a4 k = some r ∧ P r) : ∀ (d j f : Nat) (a1 : A1) (a2 : A2) (a3 : A3) (a4 : A4), d = N - j → j ≤ N → d < f → I j a1 a2 a3 a4 → ∃ r, zl4 body f a1 a2 a3 a4 = some r ∧ P r
  | d, j, 0, _, _, _, _, _, _, h, _ => absurd h (by omega)
  | d, j, f + 1, a1, a2, a3, a4, hd, hj, hf, hI => by
    show ∃ r, body a1 a2 a3 a4 (zl4 body f) = some r ∧ P r
    by_cases q : j = N
    · subst q; exact hx a1 a2 a3 a4 hI _
    · obtain ⟨b1, b2, b3, b4, h1, h2⟩ := hs j a1 a2 a3 a4 (by omega) hI
      rw [h2]
      exact zl4_inv I N hs hx (d - 1) (j + 1) f b1 b2 b3 b4 (by omega) (by omega) (by omega) h1
theorem zl6_inv {A1 A2 A3 A4 A5 A6 β : Type} {body : A1 → A2 → A3 → A4 → A5 → A6 → (A1 → A2 → A3 → A4 → A5 → A6 → Option β) → Option β} (I : Nat → A1 → A2 → A3 → A4 → A5 → A6 → Prop) (N : Nat) {P : β → Prop} (hs : ∀ i a1 a2 a3 a4 a5 a6, i < N → I i a1 a2 a3 a4 a5 a6 → ∃ b1 b2 b3 b4 b5 b6, I (i + 1) b1 b2 b3 b4 b5 b6 ∧ ∀ k, body a1 a2 a3 a4 a5 a6 k = k b1 b2 b3 b4 b5 b6) (hx : ∀ a1 a2 a3 a4 a5 a6, I N a1 a2 a3 a4 a5 a6 → ∀ k, ∃ r, body a1 a2 a3 a4 a5 a6 k = some r ∧ P r) : ∀ (d j f : Nat) (a1 : A1) (a2 : A2) (a3 : A3) (a4 : A4) (a5 : A5) (a6 : A6), d = N - j → j ≤ N → d < f → I j a1 a2 a3 a4 a5 a6 → ∃ r, zl6 body f a1 a2 a3 a4 a5 a6 = some r ∧ P r
  | d, j, 0, _, _, _, _, _, _, _, _, h, _ => absurd h (by omega)
  | d, j, f + 1, a1, a2, a3, a4, a5, a6, hd, hj, hf, hI => by
    show ∃ r, body a1 a2 a3 a4 a5 a6 (zl6 body f) = some r ∧ P r
    by_cases q : j = N
    · subst q; exact hx a1 a2 a3 a4 a5 a6 hI _
    · obtain ⟨b1, b2, b3, b4, b5, b6, h1, h2⟩ := hs j a1 a2 a3 a4 a5 a6 (by omega) hI
      rw [h2]
      exact zl6_inv I N hs hx (d - 1) (j + 1) f b1 b2 b3 b4 b5 b6 (by omega) (by omega) (by omega) h1
theorem v_swap {row : Nat → Int32} {a b : Nat} (ha : a < 5) (hb : b < 5) : F_X2_swap row (nI a) (nI b) = some (upd (upd row a (row b)) b (row a)) := by
  unfold F_X2_swap
  simp (disch := omega) only [rdN, wrN, nI_clamp]
theorem decN {w : Nat} (h : 0 < w) : nI w + (-1 : Int32) = nI (w - 1) := by
  obtain ⟨w, rfl⟩ : ∃ u, w = u + 1 := ⟨w - 1, by omega⟩
  rw [pk_m1]; rfl
theorem v_layNext {m p o : Nat} {f : Nat → Nat} {row : Nat → Int32} (hm : m ≤ 5) (hf : ∀ i, i < m → row i = nI (f i) ∧ f i < 2 ^ 30) (hp : p + 1 < m) (h1 : f p ≤ f (p + 1)) (h2 : ∀ j, p < j → j + 1 < m → f (j + 1) < f j) (h3 : p < o) (h4 : o < m) (h5 : f p ≤ f o) (h6 : ∀ j, o < j → j < m → f j < f p) :
    ∃ row', F_X2_layNextRow (nI m) row = some (1, row') ∧ ∀ i, i < m → row' i = nI (nxF m f p o i) := by
  refine ex_pair (P := fun (row' : Nat → Int32) => ∀ i, i < m → row' i = nI (nxF m f p o i)) ?_
  have rp := hf p (by omega)
  have rp1 := hf (p + 1) (by omega)
  have ro := hf o h4
  unfold F_X2_layNextRow
  rw [bdE, show (2 : Int32) = nI 2 from rfl, pk_sub (by omega)]
  refine zl1_inv (fun i x => x = nI (m - 2 - i)) (m - 2 - p) (fun i x hi hI => ?_) (fun x hI k => ?_) (m - 2 - p) 0 FU _ (Nat.sub_zero _).symm (by omega) (by unfold FU; omega) rfl
  · subst hI
    have r1 := hf (m - 2 - i) (by omega)
    have r2 := hf (m - 2 - i + 1) (by omega)
    have := h2 (m - 2 - i) (by omega) (by omega)
    refine ⟨nI (m - 2 - (i + 1)), rfl, fun k => ?_⟩
    simp (disch := omega) only [zj0, nlt0, if_false, rdN, r1.1, nI_1, r2.1, leN, show ¬ f (m - 2 - i) ≤ f (m - 2 - i + 1) by omega, decN, bdE]
    rw [show m - 2 - i - 1 = m - 2 - (i + 1) by omega]
  · subst hI
    rw [show m - 2 - (m - 2 - p) = p by omega]
    simp (disch := omega) only [zj0, nlt0, if_false, rdN, rp.1, nI_1, rp1.1, leN, h1, if_true, ge0N, bdE, subN1]
    refine zl1_inv (fun i x => x = nI (m - 1 - i)) (m - 1 - o) (fun i x hi hI => ?_) (fun x hI k => ?_) (m - 1 - o) 0 FU _ (Nat.sub_zero _).symm (by omega) (by unfold FU; omega) rfl
    · subst hI
      have r1 := hf (m - 1 - i) (by omega)
      have := h6 (m - 1 - i) (by omega) (by omega)
      refine ⟨nI (m - 1 - (i + 1)), rfl, fun k => ?_⟩
      simp (disch := omega) only [leN, show ¬ m - 1 - i ≤ p by omega, if_false, rdN, r1.1, show ¬ f p ≤ f (m - 1 - i) by omega, decN]
      rw [show m - 1 - i - 1 = m - 1 - (i + 1) by omega]
    · subst hI
      rw [show m - 1 - (m - 1 - o) = o by omega]
      simp (disch := omega) only [leN, show ¬ o ≤ p by omega, if_false, rdN, ro.1, h5, if_true, v_swap, zc1_e]
      have hsw : ∀ i, i < m → upd (upd row p (nI (f o))) o (row p) i = nI (swF f p o i) := fun i hi => by
        rw [upd_at, upd_at, rp.1]
        unfold swF
        by_cases e1 : i = o
        · rw [if_pos e1, if_neg (by omega), if_pos e1]
        · rw [if_neg e1]
          by_cases e2 : i = p
          · rw [if_pos e2, if_pos e2]
          · rw [if_neg e2, if_neg e2, if_neg e1]; exact (hf i hi).1
      refine zl3_inv (fun k x y h => x = nI (p + 1 + k) ∧ y = nI (m - 1 - k) ∧ ∀ i, i < m → h i = nI (if i ≤ p then swF f p o i else if i < p + 1 + k ∨ m - 1 - k < i then swF f p o (p + m - i) else swF f p o i)) ((m - 1 - p) / 2) (fun i x y h hi hI => ?_) (fun x y h hI k => ?_) ((m - 1 - p) / 2) 0 FU _ _ _ (Nat.sub_zero _).symm (by omega) (by unfold FU; omega) ⟨rfl, rfl, fun i hi => ?_⟩
      · obtain ⟨rfl, rfl, i3⟩ := hI
        have l1 := i3 (p + 1 + i) (by omega)
        have l2 := i3 (m - 1 - i) (by omega)
        rw [if_neg (by omega), if_neg (by omega)] at l1 l2
        refine ⟨nI (p + 1 + (i + 1)), nI (m - 1 - (i + 1)), upd (upd h (p + 1 + i) (h (m - 1 - i))) (m - 1 - i) (h (p + 1 + i)), ⟨rfl, rfl, fun j hj => ?_⟩, fun k => ?_⟩
        · rw [upd_at, upd_at, l1, l2]
          by_cases e1 : j = m - 1 - i
          · rw [if_pos e1, if_neg (by omega), if_pos (by omega), show p + m - j = p + 1 + i by omega]
          · rw [if_neg e1]
            by_cases e2 : j = p + 1 + i
            · rw [if_pos e2, if_neg (by omega), if_pos (by omega), show p + m - j = m - 1 - i by omega]
            · rw [if_neg e2, i3 j hj]
              by_cases e3 : j ≤ p
              · rw [if_pos e3, if_pos e3]
              · rw [if_neg e3, if_neg e3]
                by_cases e4 : j < p + 1 + i ∨ m - 1 - i < j
                · rw [if_pos e4, if_pos (by omega)]
                · rw [if_neg e4, if_neg (by omega)]
        · simp (disch := omega) only [leN, show ¬ m - 1 - i ≤ p + 1 + i by omega, if_false, v_swap, zc1_e, nI_1, decN]
          rw [show m - 1 - i - 1 = m - 1 - (i + 1) by omega]; rfl
      · obtain ⟨rfl, rfl, i3⟩ := hI
        rw [if_pos (nI_le (by omega) (by omega))]
        refine ⟨_, rfl, rfl, fun i hi => ?_⟩
        show h i = _
        rw [i3 i hi]
        unfold nxF
        by_cases e3 : i ≤ p
        · rw [if_pos e3, if_pos e3]
        · rw [if_neg e3, if_neg e3]
          by_cases e4 : i < p + 1 + (m - 1 - p) / 2 ∨ m - 1 - (m - 1 - p) / 2 < i
          · rw [if_pos e4]
          · rw [if_neg e4, show p + m - i = i by omega]
      · rw [hsw i hi]
        by_cases e3 : i ≤ p
        · rw [if_pos e3]
        · rw [if_neg e3, if_neg (by omega)]
theorem v_layLast {m : Nat} {f : Nat → Nat} {row : Nat → Int32} (hm : m ≤ 5) (hf : ∀ i, i < m → row i = nI (f i) ∧ f i < 2 ^ 30) (h2 : ∀ j, j + 1 < m → f (j + 1) < f j) :
    F_X2_layNextRow (nI m) row = some (0, row) := by
  unfold F_X2_layNextRow
  rw [bdE]
  by_cases hs : m ≤ 1
  · rcases (show m = 0 ∨ m = 1 by omega) with rfl | rfl
    · rw [show FU = 1999 + 1 from rfl]
      show zj0 _ _ = _
      simp only [zj0, show (nI 0 - 2 < (0 : Int32)) = True from eq_true (by decide), if_true, show ((0 : Int32) ≤ nI 0 - 2) = False from eq_false (by decide), if_false]
    · rw [show FU = 1999 + 1 from rfl]
      show zj0 _ _ = _
      simp only [zj0, show (nI 1 - 2 < (0 : Int32)) = True from eq_true (by decide), if_true, show ((0 : Int32) ≤ nI 1 - 2) = False from eq_false (by decide), if_false]
  · rw [show nI m - (2 : Int32) = nI (m - 1) + (-1 : Int32) from by rw [show (2 : Int32) = nI 2 from rfl, pk_sub (by omega), decN (by omega)]; congr 1]
    refine zl1_for (fun i => nI (m - 1 - i) + (-1 : Int32)) (m - 1) (fun i hi k => ?_) (fun k => ?_) (m - 1) 0 FU (Nat.sub_zero _).symm (by omega) (by unfold FU; omega)
    · have r1 := hf (m - 1 - i - 1) (by omega)
      have r2 := hf (m - 1 - i - 1 + 1) (by omega)
      have := h2 (m - 1 - i - 1) (by omega)
      show zj0 _ _ = k (nI (m - 1 - (i + 1)) + (-1 : Int32))
      rw [decN (show 0 < m - 1 - i by omega), show m - 1 - (i + 1) = m - 1 - i - 1 by omega]
      simp (disch := omega) only [zj0, nlt0, if_false, rdN, r1.1, nI_1, r2.1, leN, show ¬ f (m - 1 - i - 1) ≤ f (m - 1 - i - 1 + 1) by omega, bdE]
    · show zj0 _ _ = _
      rw [show m - 1 - (m - 1) = 0 by omega]
      simp only [zj0, show (nI 0 + (-1 : Int32) < (0 : Int32)) = True from eq_true (by decide), if_true, show ((0 : Int32) ≤ nI 0 + (-1 : Int32)) = False from eq_false (by decide), if_false]
/-! rows by number, of the reference -/
theorem bitsN_single {m n : Nat} (h : n < m) : bitsN m (fun j => decide (j = n)) = 2 ^ n := by
  apply Nat.eq_of_testBit_eq
  intro i
  rw [bitsN_test]
  by_cases e : i = n
  · subst e; simp [h, Nat.testBit_two_pow_self]
  · rw [Nat.testBit_two_pow_of_ne (fun h => e h.symm)]; simp [e]
theorem subI0 (a : Nat) : nI a - (0 : Int32) = nI a := by rw [l0, pk_sub (Nat.zero_le _), Nat.sub_zero]
theorem ckIp {β : Type} {n : Nat} (h : 0 < n) (hn : n < 2 ^ 31) (k : Option β) : ckI (nI n) k = k := by
  unfold ckI
  rw [if_neg (by rw [eq0N hn]; omega)]
theorem m_unit {m : Nat} (hm : m ≤ 5) (h1 : 1 ≤ m) {β : Type} (K : Int32 → Option β) : zl2 (fun x2 x3 ag4 => if nI m ≤ x3 then (K x2) else (bd (x2 * x3) (fun v40 => bd (x3 + (1 : Int32)) (fun v41 => ag4 v40 v41)))) FU (1 : Int32) (2 : Int32) = K (nI (fac (m - 1))) := by
  have e0 : fac (0 + 1) = 1 := by decide
  have hu : fac (m - 2 + 1) = fac (m - 1) := by
    rcases (show m = 1 ∨ 2 ≤ m by omega) with e | e
    · subst e; decide
    · rw [show m - 2 + 1 = m - 1 by omega]
  rw [← hu, show (1 : Int32) = nI (fac (0 + 1)) from by rw [e0]; rfl]
  refine zl2_for (fun j => nI (fac (j + 1))) (fun j => nI (j + 2)) (m - 2) (fun j hj k => ?_) (fun k => ?_) (m - 2) 0 FU (Nat.sub_zero _).symm (by omega) (by unfold FU; omega)
  · simp (disch := omega) only [leN, show ¬ m ≤ j + 2 by omega, if_false, pk_mul, bdE]
    have e2 : fac (j + 1) * (j + 2) = fac (j + 1 + 1) := by rw [Nat.mul_comm]; simp only [fac]
    rw [e2, e0, show nI 1 = (1 : Int32) from rfl, nI_1, show j + 2 + 1 = j + 1 + 2 by omega]
  · rw [if_pos (nI_le (by omega) (by omega))]
theorem m_sel {m q n : Nat} {l : Nat → Bool} (hm : m ≤ 5) (hn : n < m) (hq : q ≤ 120) (h1 : l n = true) (h2 : cntB l n = q) (h3 : ∀ j, j < n → l j = true → cntB l j < q) {β : Type} (K : Int32 → Option β) :
    zl2 (fun x17 x18 ag19 => zc1 (F_X9_has (nI (bitsN m l)) x17) (fun v20 => zj0 (zc1 (F_X9_has (nI (bitsN m l)) x17) (fun v23 => zj1 (fun y25 => bd (x18 - y25) (fun v27 => bd (x17 + (1 : Int32)) (fun v28 => ag19 v28 v27))) (fun K26 => if v23 = 0 then (K26 (0 : Int32)) else (K26 (1 : Int32))))) (fun K22 => if v20 = 0 then (K22) else (if x18 ≤ 0 then (K x17) else (K22))))) FU (0 : Int32) (nI q) = K (nI n) := by
  have hbl := bitsN_31 (n := m) (p := l) (by omega)
  have htb : ∀ j, j < m → (bitsN m l).testBit j = l j := fun j hj => by rw [bitsN_test]; simp [hj]
  have e0 : q = q - cntB l 0 := by rw [show cntB l 0 = 0 from rfl, Nat.sub_zero]
  rw [e0]
  refine zl2_for (fun j => nI j) (fun j => nI (q - cntB l j)) n (fun j hj k => ?_) (fun k => ?_) n 0 FU (Nat.sub_zero _).symm (by omega) (by unfold FU; omega)
  · simp (disch := omega) only [v_has, htb j (by omega), zc1_e, zj0, zj1, bdE, nI_1]
    cases hlj : l j
    · have ec : cntB l (j + 1) = cntB l j := by simp only [cntB, hlj]; rfl
      simp only [Bool.false_eq_true, if_false, eq00, if_true, subI0, ec]
    · have hbj := h3 j hj hlj
      have ec : cntB l (j + 1) = cntB l j + 1 := by simp only [cntB, hlj]; rfl
      simp (disch := omega) only [if_true, ne10, if_false, le0N, show ¬ q - cntB l j = 0 by omega, subN1, ec]
      rw [show q - cntB l j - 1 = q - (cntB l j + 1) by omega]
  · have hz : q - cntB l n = 0 := by omega
    simp (disch := omega) only [v_has, htb n hn, h1, zc1_e, zj0, if_true, ne10, if_false, hz, le0N]
theorem m_rowOf {m v i : Nat} {chosen : Nat → Int32} (hm : m ≤ 5) (hv : v < fac m) (hi : i < m) : F_X9_rowOf (nI m) chosen (nI v) (nI i) = some (chosen (Rp m v i)) := by
  have hv120 : v < 120 := Nat.lt_of_lt_of_le hv (fac_le hm)
  have hfb : ∀ n, n ≤ 5 → fac n ≤ 120 := fun n h => fac_le h
  have hl0 : ((1 : Int32) <<< (nI m &&& 31)) - (1 : Int32) = nI (bitsN m (lft m v 0)) := by
    rw [shl1 (by omega), subN1 _ (Nat.two_pow_pos m), show lft m v 0 = fun _ => true from rfl, bitsN_full]
  have key : ∃ r, F_X9_rowOf (nI m) chosen (nI v) (nI i) = some r ∧ r = chosen (Rp m v i) := by
    unfold F_X9_rowOf
    rw [bdE, hl0, m_unit hm (by omega)]
    have hr0 : restN m v 0 = v := rfl
    rw [← hr0, show m - 1 = m - 1 - 0 from (Nat.sub_zero _).symm]
    refine zl5_inv (fun k left who rest unit kk => left = nI (bitsN m (lft m v k)) ∧ (k = 0 ∨ who = nI (Rp m v (k - 1))) ∧ rest = nI (restN m v k) ∧ unit = nI (fac (m - 1 - k)) ∧ kk = nI k) (i + 1) (fun k left who rest unit kk hk hI => ?_) (fun left who rest unit kk hI k => ?_) (i + 1) 0 FU _ _ _ _ _ (Nat.sub_zero _).symm (by omega) (by unfold FU; omega) ⟨rfl, Or.inl rfl, rfl, rfl, rfl⟩
    · obtain ⟨rfl, -, rfl, rfl, rfl⟩ := hI
      obtain ⟨pa1, pa2⟩ := pm_ra m (by omega) v hv120 hv k (by omega)
      have pb := pm_rb m (by omega) v hv120 hv k (by omega)
      have plt := pm_lt m (by omega) v hv120 hv k (by omega)
      have hrl := restN_le m v k
      have hfp := fac_pos (m - 1 - k)
      have hfl := hfb (m - 1 - k) (by omega)
      have hql : restN m v k / fac (m - 1 - k) ≤ 120 := Nat.le_trans (Nat.div_le_self _ _) (by omega)
      refine ⟨nI (bitsN m (lft m v (k + 1))), nI (Rp m v k), nI (restN m v (k + 1)), nI (fac (m - 1 - (k + 1))), nI (k + 1), ⟨rfl, Or.inr rfl, rfl, rfl, rfl⟩, fun kn => ?_⟩
      have hrm : nI (restN m v k) - nI (restN m v k) / nI (fac (m - 1 - k)) * nI (fac (m - 1 - k)) = nI (restN m v (k + 1)) := by
        rw [remN (by omega) hfp (by omega), restN]
      rw [if_neg (nI_nlt (by omega) (by omega)), ckIp hfp (by omega), bdE, hrm, divN (by omega) hfp (by omega)]
      rw [m_sel hm plt hql pa1 pa2 (fun j hj hl => by have := pb j hj; rw [hl] at this; simpa using this)]
      have hlf : nI (bitsN m (lft m v k)) &&& (((1 : Int32) <<< (nI (Rp m v k) &&& 31)) ^^^ (-1 : Int32)) = nI (bitsN m (lft m v (k + 1))) := by
        rw [shl1 (by omega), ← bitsN_single plt, andNotB]
        congr 1
        refine bitsN_congr (fun j _ => ?_)
        unfold lft
        simp only [anyQ, Bool.not_or]
      simp (disch := omega) only [ckIp hfp (show fac (m - 1 - k) < 2 ^ 31 by omega), bdE, hlf, nI_1, subN1, subLe0]
      by_cases e : m - 1 ≤ k
      · rw [if_pos e, show m - 1 - (k + 1) = 0 by omega, show fac 0 = 1 from by rw [fac], show nI 1 = (1 : Int32) from rfl]
      · rw [if_neg e, pk_sub (by omega), ckIp (by omega) (by omega), divN (by omega) (by omega) (by omega)]
        have hfd : fac (m - 1 - k) / (m - 1 - k) = fac (m - 1 - (k + 1)) := by
          obtain ⟨n, hn⟩ : ∃ n, m - 1 - k = n + 1 := ⟨m - 1 - k - 1, by omega⟩
          rw [hn, show m - 1 - (k + 1) = n by omega, fac]
          exact Nat.mul_div_cancel_left _ (by omega)
        rw [hfd]
    · obtain ⟨rfl, hw, rfl, rfl, rfl⟩ := hI
      have hw : who = nI (Rp m v i) := by
        rcases hw with h | h
        · omega
        · rw [h, Nat.add_sub_cancel]
      have plt := pm_lt m (by omega) v hv120 hv i hi
      rw [if_pos (nI_lt (by omega) (by omega)), hw, rdN (by omega) (by omega)]
      exact ⟨_, rfl, rfl⟩
  obtain ⟨r, h1, h2⟩ := key
  rw [h1, h2]
