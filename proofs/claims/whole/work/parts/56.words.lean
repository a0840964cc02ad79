/-! ===== numbers and words of a text ===== -/
def vlN (ch : Nat → Nat) (b : Nat) : Nat → Nat
  | 0 => 0
  | n + 1 => 10 * vlN ch b n + (ch (b + n) - 48)
def nmO (L : Nat) (ch : Nat → Nat) (b lo hi : Nat) : Option Nat := if b < L ∧ srt (ch b) = 2 ∧ tE L ch b - b ≤ 2 then (if lo ≤ vlN ch b (tE L ch b - b) ∧ vlN ch b (tE L ch b - b) ≤ hi then some (vlN ch b (tE L ch b - b)) else none) else none
theorem srt2 {b : Nat} (h : srt b = 2) : 48 ≤ b ∧ b ≤ 57 := by
  unfold srt at h
  split at h
  · omega
  · split at h
    · assumption
    · omega
theorem srt1 {b : Nat} (h : srt b = 1) : 97 ≤ b ∧ b ≤ 122 := by
  unfold srt at h
  split at h
  · assumption
  · split at h <;> omega
theorem vlN_le {ch : Nat → Nat} {b n : Nat} (hd : ∀ i, i < n → 48 ≤ ch (b + i) ∧ ch (b + i) ≤ 57) (hn : n ≤ 2) : vlN ch b n ≤ 99 := by
  rcases (show n = 0 ∨ n = 1 ∨ n = 2 by omega) with rfl | rfl | rfl
  · simp only [vlN]; omega
  · have := hd 0 (by omega)
    simp only [vlN]; omega
  · have h0 := hd 0 (by omega)
    have h1 := hd 1 (by omega)
    simp only [vlN]; omega
theorem nmO_hi {L : Nat} {ch : Nat → Nat} {b lo hi v : Nat} (h : nmO L ch b lo hi = some v) : lo ≤ v ∧ v ≤ hi := by
  unfold nmO at h
  split at h
  · split at h
    · cases h; assumption
    · cases h
  · cases h
section
variable {len mlen : Int32} {sg mt : Nat → Int32} {L : Nat} {ch : Nat → Nat}
theorem v_readNumber (hX : txR len sg mlen mt L ch) {a lo hi : Nat} {r1 r2 : Int32} (ha : a ≤ L) (hlo : lo < 2 ^ 30) (hhi : hi < 2 ^ 30) : F_X4_readNumber len sg r1 r2 (nI a) (nI lo) (nI hi) = some (oI (nmO L ch (tB L ch a) lo hi), nI (csN L ch (tB L ch a)), nI (tB L ch a), nI (tE L ch (tB L ch a))) := by
  have hL : L ≤ 200 := hX.2.2.1
  unfold F_X4_readNumber
  rw [v_token hX ha, zc3_e]
  have hb := tB_ok (ch := ch) ha
  generalize hbd : tB L ch a = b at hb
  obtain ⟨t1, t2, t3, t4⟩ := tE_ok (ch := ch) hb.2
  have hsl := srt_le (ch b)
  have hcs : (nI (csN L ch b) = (2 : Int32)) = (b < L ∧ srt (ch b) = 2) := by
    have hl : csN L ch b ≤ 3 := by unfold csN; split <;> (try split) <;> omega
    rw [show (2 : Int32) = nI 2 from rfl, eqN (by omega) (by omega)]
    unfold csN
    apply propext
    by_cases h : b < L
    · rw [if_pos h]
      by_cases h2 : srt (ch b) = 0
      · rw [if_pos h2]; omega
      · rw [if_neg h2]; omega
    · rw [if_neg h]; omega
  unfold nmO
  by_cases h1 : b < L ∧ srt (ch b) = 2
  · rw [if_pos (by rw [hcs]; exact h1), pk_sub t1]
    by_cases h2 : tE L ch b - b ≤ 2
    · rw [if_pos (show nI (tE L ch b - b) ≤ (2 : Int32) from nI_le (b := 2) h2 (by omega)), if_pos (show b < L ∧ srt (ch b) = 2 ∧ tE L ch b - b ≤ 2 from ⟨h1.1, h1.2, h2⟩)]
      have hdig : ∀ i, i < tE L ch b - b → b + i < L ∧ 48 ≤ ch (b + i) ∧ ch (b + i) ≤ 57 := fun i hi => by
        obtain ⟨u1, u2⟩ := t4 h1.1 (by omega) (b + i) (by omega) (by omega)
        exact ⟨u1, srt2 (by omega)⟩
      have hv := vlN_le (fun i hi => (hdig i hi).2) h2
      have hex : zc1 (F_X8_isWithin (nI (vlN ch b (tE L ch b - b))) (nI lo) (nI hi)) (fun v11 => if v11 = 0 then (some ((-1 : Int32), nI (csN L ch b), nI b, nI (tE L ch b))) else (some (nI (vlN ch b (tE L ch b - b)), nI (csN L ch b), nI b, nI (tE L ch b)))) = some (oI (if lo ≤ vlN ch b (tE L ch b - b) ∧ vlN ch b (tE L ch b - b) ≤ hi then some (vlN ch b (tE L ch b - b)) else none), nI (csN L ch b), nI b, nI (tE L ch b)) := by
        rw [v_isWithin, zc1_e]
        have hP : (nI lo ≤ nI (vlN ch b (tE L ch b - b)) ∧ nI (vlN ch b (tE L ch b - b)) ≤ nI hi) = (lo ≤ vlN ch b (tE L ch b - b) ∧ vlN ch b (tE L ch b - b) ≤ hi) := by rw [leN (by omega) (by omega), leN (by omega) (by omega)]
        by_cases h3 : lo ≤ vlN ch b (tE L ch b - b) ∧ vlN ch b (tE L ch b - b) ≤ hi
        · simp only [hP, if_pos h3, ne10, if_false]; rfl
        · simp only [hP, if_neg h3, eq00, if_true]; rfl
      rw [← hex]
      refine zl2_for (fun i => nI (vlN ch b i)) (fun i => nI (b + i)) (tE L ch b - b) (fun i hi k => ?_) (fun k => ?_) (tE L ch b - b) 0 FU (Nat.sub_zero _).symm (by omega) (by unfold FU; omega)
      · obtain ⟨d1, d2, d3⟩ := hdig i hi
        rw [if_neg (nI_ge (by omega) (by omega)), v_signAt hX d1, zc1_e, bdE, bdE, show (10 : Int32) = nI 10 from rfl, pk_mul, nI_add, show (48 : Int32) = nI 48 from rfl, pk_sub (by omega), nI_1]
        simp only [vlN]
        rw [show vlN ch b i * 10 + ch (b + i) - 48 = 10 * vlN ch b i + (ch (b + i) - 48) by omega, show b + i + 1 = b + (i + 1) by omega]
      · rw [if_pos (nI_le (by omega) (by omega))]
    · rw [if_neg (show ¬ nI (tE L ch b - b) ≤ (2 : Int32) from by rw [show (2 : Int32) = nI 2 from rfl, leN (by omega) (by omega)]; exact h2), if_neg (show ¬ (b < L ∧ srt (ch b) = 2 ∧ tE L ch b - b ≤ 2) from fun h => h2 h.2.2)]; rfl
  · rw [if_neg (by rw [hcs]; exact h1), if_neg (show ¬ (b < L ∧ srt (ch b) = 2 ∧ tE L ch b - b ≤ 2) from fun h => h1 ⟨h.1, h.2.1⟩)]; rfl
theorem m_readsN (hX : txR len sg mlen mt L ch) {b lo hi rm k v : Nat} {read : Nat → Int32} (hb : b ≤ L) (hlo : lo < 2 ^ 30) (hhi : hi < 2 ^ 30) (hn : nmO L ch b lo hi = none) : F_X9_reads mlen (nI rm) (nI (tE L ch b)) (nI b) (nI (tE L ch b)) mt read (nI k) (nI lo) (nI hi) = some (0, nI (tE L ch b), nI b, nI (tE L ch b), read) := by
  have hL : L ≤ 200 := hX.2.2.1
  obtain ⟨t1, t2, t3, t4⟩ := tE_ok (ch := ch) hb
  have hsl := srt_le (ch b)
  unfold F_X9_reads
  rw [hX.2.1]
  by_cases h1 : b = L
  · rw [if_pos (show nI b = nI L from by rw [h1])]
  · have h1' : b < L := by omega
    rw [if_neg (show ¬ nI b = nI L from by rw [eqN (by omega) (by omega)]; exact h1), rdN (by omega) (by omega), (hX.2.2.2 b h1').1, m_sort (hX.2.2.2 b h1').2.2, zc1_e]
    by_cases h2 : srt (ch b) = 2
    · rw [if_pos (show nI (srt (ch b)) = (2 : Int32) from by rw [h2]; rfl), pk_sub t1]
      by_cases h3 : tE L ch b - b ≤ 2
      · rw [if_pos (show nI (tE L ch b - b) ≤ (2 : Int32) from nI_le (b := 2) h3 (by omega))]
        have hdig : ∀ i, i < tE L ch b - b → b + i < L ∧ 48 ≤ ch (b + i) ∧ ch (b + i) ≤ 57 := fun i hi => by
          obtain ⟨u1, u2⟩ := t4 h1' (by omega) (b + i) (by omega) (by omega)
          exact ⟨u1, srt2 (by omega)⟩
        have hv := vlN_le (fun i hi => (hdig i hi).2) h3
        have hr : ¬ (lo ≤ vlN ch b (tE L ch b - b) ∧ vlN ch b (tE L ch b - b) ≤ hi) := fun h => by
          unfold nmO at hn
          rw [if_pos ⟨h1', h2, h3⟩, if_pos h] at hn
          cases hn
        refine zl2_for (fun i => nI (vlN ch b i)) (fun i => nI (b + i)) (tE L ch b - b) (fun i hi q => ?_) (fun q => ?_) (tE L ch b - b) 0 FU (Nat.sub_zero _).symm (by omega) (by unfold FU; omega)
        · obtain ⟨d1, d2, d3⟩ := hdig i hi
          rw [if_neg (nI_ge (by omega) (by omega)), rdN (by omega) (by omega), (hX.2.2.2 _ d1).1, bdE, bdE, show (10 : Int32) = nI 10 from rfl, pk_mul, nI_add, show (48 : Int32) = nI 48 from rfl, pk_sub (by omega), nI_1]
          simp only [vlN]
          rw [show 10 * vlN ch b i + ch (b + i) - 48 = 10 * vlN ch b i + (ch (b + i) - 48) by omega, show b + i + 1 = b + (i + 1) by omega]
        · rw [if_pos (nI_le (by omega) (by omega)), bdE, v_in, zc1_e, if_neg (show ¬ (nI lo ≤ nI (vlN ch b (tE L ch b - b)) ∧ nI (vlN ch b (tE L ch b - b)) ≤ nI hi) from by rw [leN (by omega) (by omega), leN (by omega) (by omega)]; exact hr), if_pos rfl]
      · rw [if_neg (show ¬ nI (tE L ch b - b) ≤ (2 : Int32) from by rw [show (2 : Int32) = nI 2 from rfl, leN (by omega) (by omega)]; exact h3)]
    · rw [if_neg (show ¬ nI (srt (ch b)) = (2 : Int32) from by rw [show (2 : Int32) = nI 2 from rfl, eqN (by omega) (by omega)]; exact h2)]
theorem m_readsS (hX : txR len sg mlen mt L ch) {b lo hi rm k v : Nat} {read : Nat → Int32} (hb : b ≤ L) (hlo : lo < 2 ^ 30) (hhi : hi < 2 ^ 30) (hrm : rm < 12) (hk : k < 4) (hn : nmO L ch b lo hi = some v) : F_X9_reads mlen (nI rm) (nI (tE L ch b)) (nI b) (nI (tE L ch b)) mt read (nI k) (nI lo) (nI hi) = some (1, nI (tE L ch (tB L ch (tE L ch b))), nI (tB L ch (tE L ch b)), nI (tE L ch (tB L ch (tE L ch b))), upd read (5 * rm + 1 + k) (nI v)) := by
  have hL : L ≤ 200 := hX.2.2.1
  obtain ⟨t1, t2, t3, t4⟩ := tE_ok (ch := ch) hb
  have hsl := srt_le (ch b)
  unfold nmO at hn
  by_cases hc : b < L ∧ srt (ch b) = 2 ∧ tE L ch b - b ≤ 2
  · rw [if_pos hc] at hn
    obtain ⟨h1', h2, h3⟩ := hc
    by_cases hr : lo ≤ vlN ch b (tE L ch b - b) ∧ vlN ch b (tE L ch b - b) ≤ hi
    · rw [if_pos hr] at hn
      have hn : vlN ch b (tE L ch b - b) = v := Option.some.inj hn
      unfold F_X9_reads
      rw [hX.2.1, if_neg (show ¬ nI b = nI L from by rw [eqN (by omega) (by omega)]; omega), rdN (by omega) (by omega), (hX.2.2.2 b h1').1, m_sort (hX.2.2.2 b h1').2.2, zc1_e, if_pos (show nI (srt (ch b)) = (2 : Int32) from by rw [h2]; rfl), pk_sub t1, if_pos (show nI (tE L ch b - b) ≤ (2 : Int32) from nI_le (b := 2) h3 (by omega))]
      have hdig : ∀ i, i < tE L ch b - b → b + i < L ∧ 48 ≤ ch (b + i) ∧ ch (b + i) ≤ 57 := fun i hi => by
        obtain ⟨u1, u2⟩ := t4 h1' (by omega) (b + i) (by omega) (by omega)
        exact ⟨u1, srt2 (by omega)⟩
      have hv := vlN_le (fun i hi => (hdig i hi).2) h3
      refine zl2_for (fun i => nI (vlN ch b i)) (fun i => nI (b + i)) (tE L ch b - b) (fun i hi q => ?_) (fun q => ?_) (tE L ch b - b) 0 FU (Nat.sub_zero _).symm (by omega) (by unfold FU; omega)
      · obtain ⟨d1, d2, d3⟩ := hdig i hi
        rw [if_neg (nI_ge (by omega) (by omega)), rdN (by omega) (by omega), (hX.2.2.2 _ d1).1, bdE, bdE, show (10 : Int32) = nI 10 from rfl, pk_mul, nI_add, show (48 : Int32) = nI 48 from rfl, pk_sub (by omega), nI_1]
        simp only [vlN]
        rw [show 10 * vlN ch b i + ch (b + i) - 48 = 10 * vlN ch b i + (ch (b + i) - 48) by omega, show b + i + 1 = b + (i + 1) by omega]
      · rw [if_pos (nI_le (by omega) (by omega)), bdE, v_in, zc1_e, if_pos (show nI lo ≤ nI (vlN ch b (tE L ch b - b)) ∧ nI (vlN ch b (tE L ch b - b)) ≤ nI hi from by rw [leN (by omega) (by omega), leN (by omega) (by omega)]; exact hr), if_neg (by decide), show (5 : Int32) = nI 5 from rfl, pk_mul, nI_1, nI_add, wrN (by omega) (by omega), ← hX.2.1, m_token hX t2, zc3_e, nI_clamp (by omega), hn]
    · rw [if_neg hr] at hn; cases hn
  · rw [if_neg hc] at hn; cases hn
end
/-! words -/
def allB (p : Nat → Bool) : Nat → Bool
  | 0 => true
  | n + 1 => allB p n && p n
theorem allB_iff {p : Nat → Bool} {n : Nat} : allB p n = true ↔ ∀ i, i < n → p i = true := by
  induction n with
  | zero => simp [allB]
  | succ n ih =>
    simp only [allB, Bool.and_eq_true, ih]
    constructor
    · rintro ⟨h1, h2⟩ i hi
      by_cases e : i = n
      · subst e; exact h2
      · exact h1 i (by omega)
    · intro h
      exact ⟨fun i hi => h i (by omega), h n (by omega)⟩
def wdL (w : Nat) : Nat := sLen.getD w 0
def wdC (w i : Nat) : Nat := (sCh w i).toNatClampNeg
def cdW (w : Nat) : Int32 := ([175396, 168244, 529587, 26180, 418881651, 14976400, 4376884, 787944, 197796] : List Int32).getD w 0
theorem wd_f1 : ∀ w, w < 9 → 3 ≤ wdL w ∧ wdL w ≤ 6 := by decide +kernel
theorem wd_f2 : ∀ w, w < 9 → ∀ i, i < wdL w → sCh w i = nI (wdC w i) ∧ 97 ≤ wdC w i ∧ wdC w i ≤ 122 := by decide +kernel
theorem wd_f3 : ∀ w, w < 9 → ∀ i, i < wdL w → ((96 : Int32) + ((cdW w >>> (((5 : Int32) * nI i) &&& 31)) &&& (31 : Int32))) = nI (wdC w i) := by decide +kernel
theorem wd_f4 : ∀ w, w < 9 → ∀ u, u < 9 → (decide (w = u) || (!decide (wdL w = wdL u) || !allB (fun i => decide (wdC w i = wdC u i)) (wdL w))) = true := by decide +kernel
def isW (L : Nat) (ch : Nat → Nat) (b w : Nat) : Bool := decide (tE L ch b - b = wdL w) && allB (fun i => decide (ch (b + i) = wdC w i)) (wdL w)
theorem isW_uniq {L : Nat} {ch : Nat → Nat} {b w u : Nat} (hw : w < 9) (hu : u < 9) (h1 : isW L ch b w = true) (h2 : isW L ch b u = true) : w = u := by
  unfold isW at h1 h2
  simp only [Bool.and_eq_true, decide_eq_true_eq] at h1 h2
  have h := wd_f4 w hw u hu
  by_cases e : w = u
  · exact e
  · exfalso
    have hl : wdL w = wdL u := by omega
    have ha : allB (fun i => decide (wdC w i = wdC u i)) (wdL w) = true := allB_iff.mpr (fun i hi => by
      have a1 := allB_iff.mp h1.2 i hi
      have a2 := allB_iff.mp h2.2 i (by omega)
      simp only [decide_eq_true_eq] at a1 a2 ⊢
      omega)
    simp [e, hl, ha] at h
    rw [← hl, ha] at h
    cases h
section
variable {len mlen : Int32} {sg mt : Nat → Int32} {L : Nat} {ch : Nat → Nat}
theorem isW_lt {b w : Nat} (hw : w < 9) (h : isW L ch b w = true) : b < L ∧ srt (ch b) = 1 := by
  have f1 := wd_f1 w hw
  unfold isW at h
  simp only [Bool.and_eq_true, decide_eq_true_eq] at h
  have h1 : b < L := by
    rcases Nat.lt_or_ge b L with h' | h'
    · exact h'
    · have : tE L ch b = b := by unfold tE; rw [if_neg (by omega)]
      omega
  have h2 := allB_iff.mp h.2 0 (by omega)
  simp only [decide_eq_true_eq, Nat.add_zero] at h2
  have f2 := (wd_f2 w hw 0 (by omega)).2
  refine ⟨h1, ?_⟩
  unfold srt
  rw [if_pos (by omega)]
theorem v_isWord (hX : txR len sg mlen mt L ch) {b w : Nat} (hb : b ≤ L) (hw : w < 9) : F_X4_isWord len sg (nI (csN L ch b)) (nI b) (nI (tE L ch b)) w = some (if isW L ch b w then 1 else 0) := by
  have hL : L ≤ 200 := hX.2.2.1
  have f1 := wd_f1 w hw
  obtain ⟨t1, t2, t3, t4⟩ := tE_ok (ch := ch) hb
  have hcl : csN L ch b ≤ 3 := by
    have := srt_le (ch b)
    unfold csN; split <;> (try split) <;> omega
  unfold F_X4_isWord
  rw [bdE, pk_sub t1, show sLen.getD w 0 = wdL w from rfl]
  by_cases h1 : csN L ch b = 1
  · rw [if_pos (show nI (csN L ch b) = (1 : Int32) from by rw [h1]; rfl)]
    have hbl : b < L := by
      rcases Nat.lt_or_ge b L with h' | h'
      · exact h'
      · unfold csN at h1; rw [if_neg (by omega)] at h1; omega
    by_cases h2 : tE L ch b - b = wdL w
    · rw [if_pos (show nI (tE L ch b - b) = nI (wdL w) from by rw [h2])]
      have hs1 : srt (ch b) ≠ 0 := by
        intro h
        unfold csN at h1
        rw [if_pos hbl, if_pos h] at h1
        omega
      have key : ∃ r, zl1 (fun x4 ag5 => bd (nI (wdL w)) (fun v6 => if v6 ≤ x4 then (some (1 : Int32)) else (bd (nI b + x4) (fun v8 => zc1 (F_X6_signAt len sg v8) (fun v9 => rd (wdL w) (sCh w) x4 (fun v11 => if v9 = v11 then (bd (x4 + (1 : Int32)) (fun v14 => ag5 v14)) else (some (0 : Int32)))))))) FU (0 : Int32) = some r ∧ r = (if isW L ch b w then 1 else 0) := by
        by_cases hall : allB (fun i => decide (ch (b + i) = wdC w i)) (wdL w) = true
        · have hi : isW L ch b w = true := by unfold isW; rw [hall]; simp [h2]
          refine zl1_inv (fun i x => x = nI i) (wdL w) (fun i x hi' hI => ?_) (fun x hI k => ?_) (wdL w) 0 FU _ (Nat.sub_zero _).symm (by omega) (by unfold FU; omega) rfl
          · subst hI
            have hc := allB_iff.mp hall i hi'
            simp only [decide_eq_true_eq] at hc
            have hbi := (t4 hbl hs1 (b + i) (by omega) (by omega)).1
            refine ⟨nI (i + 1), rfl, fun k => ?_⟩
            rw [bdE, if_neg (nI_ge hi' (by omega)), bdE, nI_add, v_signAt hX hbi, zc1_e, rdN hi' (by omega), (wd_f2 w hw i hi').1, hc, if_pos rfl, bdE, nI_1]
          · subst hI
            rw [bdE, if_pos (nI_le (Nat.le_refl _) (by omega)), hi]
            exact ⟨_, rfl, rfl⟩
        · have hi : isW L ch b w = false := by unfold isW; simp [hall]
          obtain ⟨n, n1, n2, n3⟩ : ∃ n, n < wdL w ∧ (∀ i, i < n → ch (b + i) = wdC w i) ∧ ch (b + n) ≠ wdC w n := by
            have : ∀ m, allB (fun i => decide (ch (b + i) = wdC w i)) m = false → ∃ n, n < m ∧ (∀ i, i < n → ch (b + i) = wdC w i) ∧ ch (b + n) ≠ wdC w n := by
              intro m
              induction m with
              | zero => intro h; cases h
              | succ m ih =>
                intro h
                by_cases hm : allB (fun i => decide (ch (b + i) = wdC w i)) m = true
                · refine ⟨m, by omega, fun i hi => by simpa using allB_iff.mp hm i hi, ?_⟩
                  simp only [allB, hm, Bool.true_and] at h
                  simpa using h
                · obtain ⟨n, a1, a2⟩ := ih (by simpa using hm)
                  exact ⟨n, by omega, a2⟩
            exact this _ (by simpa using hall)
          refine zl1_inv (fun i x => x = nI i) n (fun i x hi' hI => ?_) (fun x hI k => ?_) n 0 FU _ (Nat.sub_zero _).symm (by omega) (by unfold FU; omega) rfl
          · subst hI
            have hbi := (t4 hbl hs1 (b + i) (by omega) (by omega)).1
            refine ⟨nI (i + 1), rfl, fun k => ?_⟩
            rw [bdE, if_neg (nI_ge (by omega) (by omega)), bdE, nI_add, v_signAt hX hbi, zc1_e, rdN (by omega) (by omega), (wd_f2 w hw i (by omega)).1, n2 i hi', if_pos rfl, bdE, nI_1]
          · subst hI
            have hbi := (t4 hbl hs1 (b + n) (by omega) (by omega)).1
            have h256 := (hX.2.2.2 _ hbi).2.2
            have f2 := wd_f2 w hw n n1
            rw [bdE, if_neg (nI_ge n1 (by omega)), bdE, nI_add, v_signAt hX hbi, zc1_e, rdN n1 (by omega), f2.1, if_neg (by rw [eqN (by omega) (by omega)]; exact n3), hi]
            exact ⟨_, rfl, rfl⟩
      obtain ⟨r, e1, e2⟩ := key
      rw [e1, e2]
    · have hi : isW L ch b w = false := by unfold isW; simp [h2]
      rw [if_neg (show ¬ nI (tE L ch b - b) = nI (wdL w) from by rw [eqN (by omega) (by omega)]; exact h2), hi]; rfl
  · have hi : isW L ch b w = false := by
      refine Bool.eq_false_iff.mpr (fun h => ?_)
      obtain ⟨u1, u2⟩ := isW_lt hw h
      apply h1
      unfold csN
      rw [if_pos u1, if_neg (by omega), u2]
    rw [if_neg (show ¬ nI (csN L ch b) = (1 : Int32) from by rw [eq1N (by omega)]; exact h1), hi]; rfl
theorem m_isWord (hX : txR len sg mlen mt L ch) {b w : Nat} (hb : b ≤ L) (hw : w < 9) : F_X9_isWord (nI b) (nI (tE L ch b)) mt (cdW w) (nI (wdL w)) = some (if isW L ch b w then 1 else 0) := by
  have hL : L ≤ 200 := hX.2.2.1
  have f1 := wd_f1 w hw
  obtain ⟨t1, t2, t3, t4⟩ := tE_ok (ch := ch) hb
  unfold F_X9_isWord
  simp only [zj1]
  rw [pk_sub t1]
  by_cases h2 : tE L ch b - b = wdL w
  · rw [if_pos (show nI (tE L ch b - b) = nI (wdL w) from by rw [h2])]
    have hiw : isW L ch b w = allB (fun i => decide (ch (b + i) = wdC w i)) (wdL w) := by unfold isW; simp [h2]
    rw [hiw]
    have key : ∃ r, zl2 (fun x3 x4 ag5 => if x3 = 0 then (ckZ x3 (some x3)) else (if nI (wdL w) ≤ x4 then (ckZ x3 (some x3)) else (rd 200 mt (nI b + x4) (fun v8 => if v8 = ((96 : Int32) + ((cdW w >>> (((5 : Int32) * x4) &&& 31)) &&& (31 : Int32))) then (bd (x4 + (1 : Int32)) (fun v12 => ag5 (1 : Int32) v12)) else (bd (x4 + (1 : Int32)) (fun v11 => ag5 (0 : Int32) v11)))))) FU (1 : Int32) (0 : Int32) = some r ∧ r = (if allB (fun i => decide (ch (b + i) = wdC w i)) (wdL w) then 1 else 0) := by
      refine zl2_esc (fun i x y => x = (if allB (fun i => decide (ch (b + i) = wdC w i)) i then (1 : Int32) else 0) ∧ y = nI i) (wdL w) (fun i x y hi hI => ?_) (fun x y hI k => ?_) (wdL w) 0 FU _ _ (Nat.sub_zero _).symm (by omega) (by unfold FU; omega) ⟨rfl, rfl⟩
      · obtain ⟨rfl, rfl⟩ := hI
        cases hall : allB (fun i => decide (ch (b + i) = wdC w i)) i
        · refine Or.inl ⟨0, ?_, fun k => ?_⟩
          · have : allB (fun i => decide (ch (b + i) = wdC w i)) (wdL w) = false := by
              refine Bool.eq_false_iff.mpr (fun h => ?_)
              have := allB_iff.mpr (fun j (hj : j < i) => allB_iff.mp h j (by omega))
              rw [hall] at this; cases this
            rw [this]; rfl
          · simp only [Bool.false_eq_true, if_false, eq00, if_true, ckZ0]
        · have hbi : b + i < L := by omega
          have h256 := (hX.2.2.2 _ hbi).2.2
          have f2 := (wd_f2 w hw i hi).2
          refine Or.inr ⟨_, nI (i + 1), ⟨rfl, rfl⟩, fun k => ?_⟩
          simp only [allB, hall, Bool.true_and, if_true]
          rw [if_neg (by decide), if_neg (nI_ge hi (by omega)), nI_add, rdN (by omega) (by omega), (hX.2.2.2 _ hbi).1, wd_f3 w hw i hi]
          by_cases e : ch (b + i) = wdC w i
          · rw [if_pos (show nI (ch (b + i)) = nI (wdC w i) from by rw [e]), bdE, nI_1]; simp [e]
          · rw [if_neg (show ¬ nI (ch (b + i)) = nI (wdC w i) from by rw [eqN (by omega) (by omega)]; exact e), bdE, nI_1]; simp [e]
      · obtain ⟨rfl, rfl⟩ := hI
        refine ⟨_, ?_, rfl⟩
        rw [if_pos (nI_le (Nat.le_refl _) (by omega)), ite_self, ckZp]
    obtain ⟨r, e1, e2⟩ := key
    rw [e1, e2]
  · have hi : isW L ch b w = false := by unfold isW; simp [h2]
    rw [if_neg (show ¬ nI (tE L ch b - b) = nI (wdL w) from by rw [eqN (by omega) (by omega)]; exact h2), hi]
    have : zl2 (fun x3 x4 ag5 => if x3 = 0 then (ckZ x3 (some x3)) else (if nI (wdL w) ≤ x4 then (ckZ x3 (some x3)) else (rd 200 mt (nI b + x4) (fun v8 => if v8 = ((96 : Int32) + ((cdW w >>> (((5 : Int32) * x4) &&& 31)) &&& (31 : Int32))) then (bd (x4 + (1 : Int32)) (fun v12 => ag5 (1 : Int32) v12)) else (bd (x4 + (1 : Int32)) (fun v11 => ag5 (0 : Int32) v11)))))) FU (0 : Int32) (0 : Int32) = some 0 := rfl
    exact this
end
