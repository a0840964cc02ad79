/-! ===== tokens ===== -/
def srt (b : Nat) : Nat := if 97 ≤ b ∧ b ≤ 122 then 1 else if 48 ≤ b ∧ b ≤ 57 then 2 else 0
theorem srt_le (b : Nat) : srt b ≤ 2 := by unfold srt; split <;> (try split) <;> omega
def txR (len : Int32) (sg : Nat → Int32) (mlen : Int32) (mt : Nat → Int32) (L : Nat) (ch : Nat → Nat) : Prop := len = nI L ∧ mlen = nI L ∧ L ≤ 200 ∧ ∀ k, k < L → mt k = nI (ch k) ∧ sg k &&& 255 = nI (ch k) ∧ ch k < 256
theorem txR_of {len mlen : Int32} {sg mt : Nat → Int32} {L : Nat} (h : tR len sg mlen mt L) : txR len sg mlen mt L (fun k => (mt k).toNatClampNeg) := by
  obtain ⟨h1, h2, h3, h4⟩ := h
  refine ⟨h1, h2, h3, fun k hk => ?_⟩
  obtain ⟨e1, b, hb, e2⟩ := h4 k hk
  show mt k = nI (mt k).toNatClampNeg ∧ sg k &&& 255 = nI (mt k).toNatClampNeg ∧ (mt k).toNatClampNeg < 256
  rw [← e1, e2, nI_clamp (by omega)]
  exact ⟨rfl, rfl, hb⟩
def whl (c : Nat → Bool) : Nat → Nat → Nat
  | 0, a => a
  | n + 1, a => if c a then whl c n (a + 1) else a
theorem whl_ok {c : Nat → Bool} {L : Nat} (hc : ∀ k, c k = true → k < L) : ∀ n a, a ≤ L → a ≤ whl c n a ∧ whl c n a ≤ L ∧ ∀ k, a ≤ k → k < whl c n a → c k = true
  | 0, a, h => ⟨Nat.le_refl _, h, fun k h1 h2 => by simp only [whl] at h2; omega⟩
  | n + 1, a, h => by
    simp only [whl]
    cases hca : c a
    · simp only [Bool.false_eq_true, if_false]
      exact ⟨Nat.le_refl _, h, fun k h1 h2 => by omega⟩
    · simp only [if_true]
      obtain ⟨h1, h2, h3⟩ := whl_ok hc n (a + 1) (hc a hca)
      refine ⟨by omega, h2, fun k k1 k2 => ?_⟩
      by_cases e : k = a
      · rw [e]; exact hca
      · exact h3 k (by omega) k2
theorem zl1_whl {β : Type} {body : Int32 → (Int32 → Option β) → Option β} {c : Nat → Bool} {R : Nat → Option β} {L : Nat} (hc : ∀ k, c k = true → k < L) (hs : ∀ k, k ≤ L → c k = true → ∀ q, body (nI k) q = q (nI (k + 1))) (hx : ∀ k, k ≤ L → c k = false → ∀ q, body (nI k) q = R k) : ∀ f n a, a ≤ L → L - a < f → L - a ≤ n → zl1 body f (nI a) = R (whl c n a)
  | 0, n, a, _, h, _ => absurd h (by omega)
  | f + 1, n, a, ha, hf, hn => by
    show body (nI a) (zl1 body f) = _
    cases hca : c a
    · rw [hx a ha hca]
      cases n with
      | zero => rfl
      | succ n => simp only [whl, hca, Bool.false_eq_true, if_false]
    · have hal := hc a hca
      obtain ⟨m, rfl⟩ : ∃ m, n = m + 1 := ⟨n - 1, by omega⟩
      rw [hs a ha hca, zl1_whl hc hs hx f m (a + 1) (by omega) (by omega) (by omega)]
      simp only [whl, hca, if_true]
theorem zl1_now {A β : Type} {body : A → (A → Option β) → Option β} {a : A} {R : Option β} (h : ∀ k, body a k = R) : zl1 body FU a = R := (show zl1 body FU a = body a (zl1 body 1999) from rfl).trans (h _)
def bkP (L : Nat) (ch : Nat → Nat) : Nat → Bool := fun k => decide (k < L) && decide (ch k = 32)
def rnP (L : Nat) (ch : Nat → Nat) (s : Nat) : Nat → Bool := fun k => decide (k < L) && decide (srt (ch k) = s)
theorem bkP_lt {L : Nat} {ch : Nat → Nat} : ∀ k, bkP L ch k = true → k < L := fun k h => by unfold bkP at h; simp at h; exact h.1
theorem rnP_lt {L : Nat} {ch : Nat → Nat} {s : Nat} : ∀ k, rnP L ch s k = true → k < L := fun k h => by unfold rnP at h; simp at h; exact h.1
def tB (L : Nat) (ch : Nat → Nat) (a : Nat) : Nat := whl (bkP L ch) L a
def tE (L : Nat) (ch : Nat → Nat) (b : Nat) : Nat := if b < L then (if srt (ch b) = 0 then b + 1 else whl (rnP L ch (srt (ch b))) L (b + 1)) else b
def csN (L : Nat) (ch : Nat → Nat) (b : Nat) : Nat := if b < L then (if srt (ch b) = 0 then 3 else srt (ch b)) else 0
theorem tB_ok {L a : Nat} {ch : Nat → Nat} (h : a ≤ L) : a ≤ tB L ch a ∧ tB L ch a ≤ L := ⟨(whl_ok bkP_lt L a h).1, (whl_ok bkP_lt L a h).2.1⟩
theorem tE_ok {L b : Nat} {ch : Nat → Nat} (h : b ≤ L) : b ≤ tE L ch b ∧ tE L ch b ≤ L ∧ (b < L → b < tE L ch b) ∧ (b < L → srt (ch b) ≠ 0 → ∀ k, b ≤ k → k < tE L ch b → k < L ∧ srt (ch k) = srt (ch b)) := by
  unfold tE
  by_cases h1 : b < L
  · rw [if_pos h1]
    by_cases h2 : srt (ch b) = 0
    · rw [if_pos h2]
      exact ⟨by omega, by omega, fun _ => by omega, fun _ h => absurd h2 h⟩
    · rw [if_neg h2]
      obtain ⟨e1, e2, e3⟩ := whl_ok (c := rnP L ch (srt (ch b))) rnP_lt L (b + 1) (by omega)
      refine ⟨by omega, e2, fun _ => by omega, fun _ _ k k1 k2 => ?_⟩
      by_cases e : k = b
      · rw [e]; exact ⟨h1, rfl⟩
      · have := e3 k (by omega) k2
        unfold rnP at this
        simp at this
        exact this
  · rw [if_neg h1]
    exact ⟨Nat.le_refl _, h, fun h => absurd h h1, fun h => absurd h h1⟩
section
variable {len mlen : Int32} {sg mt : Nat → Int32} {L : Nat} {ch : Nat → Nat}
theorem v_signAt (hX : txR len sg mlen mt L ch) {k : Nat} (hk : k < L) : F_X6_signAt len sg (nI k) = some (nI (ch k)) := by
  obtain ⟨h1, h2, h3, h4⟩ := hX
  unfold F_X6_signAt
  rw [if_neg (nI_pos (by omega)), h1, if_neg (nI_ge hk (by omega)), rdN (by omega) (by omega), (h4 k hk).2.1]
theorem v_signEnd (hX : txR len sg mlen mt L ch) : F_X6_signAt len sg (nI L) = some (-1) := by
  obtain ⟨h1, h2, h3, h4⟩ := hX
  unfold F_X6_signAt
  rw [if_neg (nI_pos (by omega)), h1, if_pos (nI_le (Nat.le_refl _) (by omega))]
theorem v_sortOf {b : Nat} (hb : b < 256) : F_X4_sortOf (nI b) = some (nI (if srt b = 0 then 3 else srt b)) := by
  unfold F_X4_sortOf srt
  simp (disch := omega) only [neM1, if_false, zj0, show (97 : Int32) = nI 97 from rfl, show (122 : Int32) = nI 122 from rfl, show (48 : Int32) = nI 48 from rfl, show (57 : Int32) = nI 57 from rfl, ltN]
  by_cases h1 : b < 97
  · rw [if_pos h1]
    by_cases h2 : b < 48
    · rw [if_pos h2, if_neg (show ¬ (97 ≤ b ∧ b ≤ 122) by omega), if_neg (show ¬ (48 ≤ b ∧ b ≤ 57) by omega)]; rfl
    · rw [if_neg h2]
      by_cases h3 : 57 < b
      · rw [if_pos h3, if_neg (show ¬ (97 ≤ b ∧ b ≤ 122) by omega), if_neg (show ¬ (48 ≤ b ∧ b ≤ 57) by omega)]; rfl
      · rw [if_neg h3, if_neg (show ¬ (97 ≤ b ∧ b ≤ 122) by omega), if_pos (show 48 ≤ b ∧ b ≤ 57 by omega)]; rfl
  · rw [if_neg h1]
    by_cases h2 : 122 < b
    · rw [if_pos h2, if_neg (show ¬ b < 48 by omega), if_pos (show 57 < b by omega), if_neg (show ¬ (97 ≤ b ∧ b ≤ 122) by omega), if_neg (show ¬ (48 ≤ b ∧ b ≤ 57) by omega)]; rfl
    · rw [if_neg h2, if_pos (show 97 ≤ b ∧ b ≤ 122 by omega)]; rfl
theorem m_sort {b : Nat} (hb : b < 256) : F_X9_sort (nI b) = some (nI (srt b)) := by
  unfold F_X9_sort srt
  simp (disch := omega) only [zj0, show (97 : Int32) = nI 97 from rfl, show (122 : Int32) = nI 122 from rfl, show (48 : Int32) = nI 48 from rfl, show (57 : Int32) = nI 57 from rfl, ltN]
  by_cases h1 : b < 97
  · rw [if_pos h1]
    by_cases h2 : b < 48
    · rw [if_pos h2, if_neg (show ¬ (97 ≤ b ∧ b ≤ 122) by omega), if_neg (show ¬ (48 ≤ b ∧ b ≤ 57) by omega)]; rfl
    · rw [if_neg h2]
      by_cases h3 : 57 < b
      · rw [if_pos h3, if_neg (show ¬ (97 ≤ b ∧ b ≤ 122) by omega), if_neg (show ¬ (48 ≤ b ∧ b ≤ 57) by omega)]; rfl
      · rw [if_neg h3, if_neg (show ¬ (97 ≤ b ∧ b ≤ 122) by omega), if_pos (show 48 ≤ b ∧ b ≤ 57 by omega)]; rfl
  · rw [if_neg h1]
    by_cases h2 : 122 < b
    · rw [if_pos h2, if_neg (show ¬ b < 48 by omega), if_pos (show 57 < b by omega), if_neg (show ¬ (97 ≤ b ∧ b ≤ 122) by omega), if_neg (show ¬ (48 ≤ b ∧ b ≤ 57) by omega)]; rfl
    · rw [if_neg h2, if_pos (show 97 ≤ b ∧ b ≤ 122 by omega)]; rfl
theorem bkP_f {k : Nat} (hk : k ≤ L) (h : bkP L ch k = false) : k = L ∨ (k < L ∧ ch k ≠ 32) := by
  unfold bkP at h
  by_cases e : k < L
  · right
    simp [e] at h
    exact ⟨e, h⟩
  · left; omega
theorem v_run (hX : txR len sg mlen mt L ch) {s a b : Nat} (hs : s = 1 ∨ s = 2) (ha : a ≤ L) : zl1 (fun h11 ag12 => if (1 : Int32) = 0 then (some (nI s, nI b, h11)) else (if len ≤ h11 then (some (nI s, nI b, h11)) else (zc1 (F_X6_signAt len sg h11) (fun v15 => zc1 (F_X4_sortOf v15) (fun v17 => if v17 = nI s then (bd (h11 + (1 : Int32)) (fun v20 => ag12 v20)) else (some (nI s, nI b, h11))))))) FU (nI a) = some (nI s, nI b, nI (whl (rnP L ch s) L a)) := by
  have hL : L ≤ 200 := hX.2.2.1
  refine zl1_whl (c := rnP L ch s) (R := fun k => some (nI s, nI b, nI k)) rnP_lt (fun k hk hc q => ?_) (fun k hk hc q => ?_) FU L a ha (by unfold FU; omega) (by omega)
  · unfold rnP at hc
    simp at hc
    obtain ⟨c1, c2⟩ := hc
    have hb := (hX.2.2.2 k c1).2.2
    simp only [ne10, if_false]
    have ev : (if srt (ch k) = 0 then 3 else srt (ch k)) = s := by rw [c2, if_neg (by omega)]
    rw [if_neg (by rw [hX.1]; exact nI_ge c1 (by omega)), v_signAt hX c1, zc1_e, v_sortOf hb, zc1_e, ev, if_pos rfl, bdE, nI_1]
  · simp only [ne10, if_false]
    by_cases e : k < L
    · have hb := (hX.2.2.2 k e).2.2
      have hne : srt (ch k) ≠ s := by unfold rnP at hc; simp [e] at hc; exact hc
      have hsl := srt_le (ch k)
      rw [if_neg (by rw [hX.1]; exact nI_ge e (by omega)), v_signAt hX e, zc1_e, v_sortOf hb, zc1_e, if_neg]
      rw [eqN (by split <;> omega) (by omega)]
      split <;> omega
    · rw [if_pos (by rw [hX.1]; exact nI_le (by omega) (by omega))]
theorem v_token (hX : txR len sg mlen mt L ch) {a : Nat} {r1 r2 : Int32} (ha : a ≤ L) : F_X4_toNextToken len sg r1 r2 (nI a) = some (nI (csN L ch (tB L ch a)), nI (tB L ch a), nI (tE L ch (tB L ch a))) := by
  have hL : L ≤ 200 := hX.2.2.1
  unfold F_X4_toNextToken
  refine zl1_whl (c := bkP L ch) (R := fun k => some (nI (csN L ch k), nI k, nI (tE L ch k))) bkP_lt (fun k hk hc q => ?_) (fun k hk hc q => ?_) FU L a ha (by unfold FU; omega) (by omega)
  · unfold bkP at hc
    simp at hc
    obtain ⟨c1, c2⟩ := hc
    simp only [zj0]
    rw [if_neg (by rw [hX.1]; exact nI_ge c1 (by omega)), v_signAt hX c1, zc1_e, zc1_e, c2, if_pos (show nI 32 = (32 : Int32) from rfl), bdE, nI_1]
  · simp only [zj0, zj1]
    rcases bkP_f hk hc with e | ⟨e1, e2⟩
    · subst e
      rw [if_pos (by rw [hX.1]; exact nI_le (Nat.le_refl _) (by omega)), v_signEnd hX, zc1_e, show F_X4_sortOf (-1) = some 0 from rfl, zc1_e]
      have c0 : csN k ch k = 0 := by unfold csN; rw [if_neg (by omega)]
      have t0 : tE k ch k = k := by unfold tE; rw [if_neg (by omega)]
      rw [c0, t0]
      simp only [eq00, if_true, ne01, if_false, show ((0 : Int32) = 2) = False from eq_false (by decide)]
      exact zl1_now (fun _ => rfl)
    · have hb := (hX.2.2.2 k e1).2.2
      have hsl := srt_le (ch k)
      have c0 : csN L ch k = if srt (ch k) = 0 then 3 else srt (ch k) := by unfold csN; rw [if_pos e1]
      have t0 : tE L ch k = if srt (ch k) = 0 then k + 1 else whl (rnP L ch (srt (ch k))) L (k + 1) := by unfold tE; rw [if_pos e1]
      have h32 : (nI (ch k) = (32 : Int32)) = False := by rw [show (32 : Int32) = nI 32 from rfl, eqN (by omega) (by omega)]; exact eq_false e2
      rw [if_neg (by rw [hX.1]; exact nI_ge e1 (by omega)), v_signAt hX e1, zc1_e, zc1_e]
      simp only [h32, if_false]
      rw [v_sortOf hb, zc1_e, c0, t0]
      rcases (show srt (ch k) = 0 ∨ srt (ch k) = 1 ∨ srt (ch k) = 2 by omega) with h | h | h
      · simp only [h, if_true, show (nI 3 = (0 : Int32)) = False from eq_false (by decide), show (nI 3 = (1 : Int32)) = False from eq_false (by decide), show (nI 3 = (2 : Int32)) = False from eq_false (by decide), if_false, nI_1, eq00]
        exact zl1_now (fun _ => rfl)
      · rw [h]
        simp only [show ¬ (1 = 0) by omega, if_false, show (nI 1 = (0 : Int32)) = False from eq_false (by decide), show (nI 1 = (1 : Int32)) = True from eq_true (by decide), if_true, nI_1]
        exact v_run hX (Or.inl rfl) (by omega)
      · rw [h]
        simp only [show ¬ (2 = 0) by omega, if_false, show (nI 2 = (0 : Int32)) = False from eq_false (by decide), show (nI 2 = (1 : Int32)) = False from eq_false (by decide), show (nI 2 = (2 : Int32)) = True from eq_true (by decide), if_true, nI_1]
        exact v_run hX (Or.inr rfl) (by omega)
theorem m_runT (hX : txR len sg mlen mt L ch) {k s a : Nat} (hs : s ≠ 0) (hs2 : s ≤ 2) (ha : a ≤ L) : zl1 (fun h7 ag8 => if mlen ≤ h7 then some (h7, nI k, h7) else (if nI s ≤ 0 then some (h7, nI k, h7) else (rd 200 mt h7 (fun v16 => zc1 (F_X9_sort v16) (fun v18 => if v18 = nI s then (ag8 (h7 + (1 : Int32))) else some (h7, nI k, h7)))))) FU (nI a) = some (nI (whl (rnP L ch s) L a), nI k, nI (whl (rnP L ch s) L a)) := by
  have hL : L ≤ 200 := hX.2.2.1
  have hm : mlen = nI L := hX.2.1
  refine zl1_whl (c := rnP L ch s) (R := fun j => some (nI j, nI k, nI j)) rnP_lt (fun j hj hc q => ?_) (fun j hj hc q => ?_) FU L a ha (by unfold FU; omega) (by omega)
  · unfold rnP at hc
    simp at hc
    obtain ⟨c1, c2⟩ := hc
    have hb2 := (hX.2.2.2 j c1).2.2
    rw [if_neg (by rw [hm]; exact nI_ge c1 (by omega)), if_neg (by rw [le0N (by omega)]; exact hs), rdN (by omega) (by omega), (hX.2.2.2 j c1).1, m_sort hb2, zc1_e, c2, if_pos rfl, nI_1]
  · by_cases e : j < L
    · have hb2 := (hX.2.2.2 j e).2.2
      have hne : srt (ch j) ≠ s := by unfold rnP at hc; simp [e] at hc; exact hc
      have hsl2 := srt_le (ch j)
      rw [if_neg (by rw [hm]; exact nI_ge e (by omega)), if_neg (by rw [le0N (by omega)]; exact hs), rdN (by omega) (by omega), (hX.2.2.2 j e).1, m_sort hb2, zc1_e, if_neg (by rw [eqN (by omega) (by omega)]; exact hne)]
    · rw [if_pos (by rw [hm]; exact nI_le (by omega) (by omega))]
theorem bdX {α β : Type} (e : α) (k : α → Option β) : bd e k = k e := Eq.symm (Eq.symm rfl)
theorem m_token (hX : txR len sg mlen mt L ch) {a : Nat} {r1 r2 : Int32} (ha : a ≤ L) : F_X9_token mlen (nI a) r1 r2 mt = some (nI (tE L ch (tB L ch a)), nI (tB L ch a), nI (tE L ch (tB L ch a))) := by
  have hL : L ≤ 200 := hX.2.2.1
  have hm : mlen = nI L := hX.2.1
  unfold F_X9_token
  refine zl1_whl (c := bkP L ch) (R := fun k => some (nI (tE L ch k), nI k, nI (tE L ch k))) bkP_lt (fun k hk hc q => ?_) (fun k hk hc q => ?_) FU L a ha (by unfold FU; omega) (by omega)
  · unfold bkP at hc
    simp at hc
    obtain ⟨c1, c2⟩ := hc
    simp only [zj0]
    rw [if_neg (by rw [hm]; exact nI_ge c1 (by omega)), rdN (by omega) (by omega), (hX.2.2.2 k c1).1, c2, if_pos (show nI 32 = (32 : Int32) from rfl), bdE, nI_1]
  · simp only [zj0, zj1]
    rcases bkP_f hk hc with e | ⟨e1, e2⟩
    · subst e
      have t0 : tE k ch k = k := by unfold tE; rw [if_neg (by omega)]
      have hle : (mlen ≤ nI k) = True := eq_true (by rw [hm]; exact nI_le (Nat.le_refl _) (by omega))
      simp only [hle, if_true, t0, zI, bdX]
      exact zl1_now (fun _ => by rw [if_pos (of_eq_true hle)])
    · have hb := (hX.2.2.2 k e1).2.2
      have hsl := srt_le (ch k)
      have t0 : tE L ch k = if srt (ch k) = 0 then k + 1 else whl (rnP L ch (srt (ch k))) L (k + 1) := by unfold tE; rw [if_pos e1]
      have h32 : (nI (ch k) = (32 : Int32)) = False := by rw [show (32 : Int32) = nI 32 from rfl, eqN (by omega) (by omega)]; exact eq_false e2
      have hrd : ∀ {β : Type} (q : Int32 → Option β), rd 200 mt (nI k) q = q (nI (ch k)) := fun q => by rw [rdN (by omega) (by omega), (hX.2.2.2 k e1).1]
      have hle : (mlen ≤ nI k) = False := eq_false (by rw [hm]; exact nI_ge e1 (by omega))
      simp only [hle, if_false, hrd, h32, bdX, nI_1, m_sort hb, zc1_e]
      rw [t0]
      by_cases h : srt (ch k) = 0
      · rw [if_pos h, h]
        simp only [show (nI 0 ≤ (0 : Int32)) = True from eq_true (by decide), if_true, ite_self]
        exact zl1_now (fun _ => rfl)
      · rw [if_neg h]
        exact m_runT hX h hsl (by omega)
end
