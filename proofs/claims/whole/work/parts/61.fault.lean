/-! ===== fault: lines one by one ===== -/
def bC (x_length : Int32) (x_signs : Nat → Int32) : Int32 → Int32 → Int32 → Int32 → (Nat → Int32) → (Nat → Int32) → (Nat → Int32) → (Nat → Int32) → (Nat → Int32) → (Nat → Int32) → (Nat → Int32) → (Nat → Int32) → (Nat → Int32) → Int32 → Int32 → Int32 → Int32 → (Int32 → Int32 → Int32 → Int32 → (Nat → Int32) → (Nat → Int32) → (Nat → Int32) → (Nat → Int32) → (Nat → Int32) → (Nat → Int32) → (Nat → Int32) → (Nat → Int32) → (Nat → Int32) → Int32 → Int32 → Int32 → Int32 → Option (Int32 × Int32 × Int32 × Int32 × (Nat → Int32) × (Nat → Int32) × (Nat → Int32) × (Nat → Int32) × (Nat → Int32) × (Nat → Int32) × (Nat → Int32) × (Nat → Int32) × (Nat → Int32) × Int32 × Int32 × Int32 × Int32)) → Option (Int32 × Int32 × Int32 × Int32 × (Nat → Int32) × (Nat → Int32) × (Nat → Int32) × (Nat → Int32) × (Nat → Int32) × (Nat → Int32) × (Nat → Int32) × (Nat → Int32) × (Nat → Int32) × Int32 × Int32 × Int32 × Int32) := fun x1 h2 h3 h4 h5 h6 h7 h8 h9 h10 h11 h12 h13 h14 h15 h16 h17 ag18 => if (12 : Int32) < x1 then (some (h15, h2, h3, h4, h5, h6, h7, h8, h9, h10, h11, h12, h13, h14, h15, h16, h17)) else (zc16 (F_X4_readLine x_length x_signs h2 h3 h4 h5 h6 h7 h8 h9 h10 h11 h12 h13 h14 h15 h16) (fun v20 g21 g22 g23 g24 g25 g26 g27 g28 g29 g30 g31 g32 g33 g34 g35 => if v20 = 0 then (some (g34, g21, g22, g23, g24, g25, g26, g27, g28, g29, g30, g31, g32, g33, g34, g35, h17)) else (zc3 (F_X4_toNextToken x_length x_signs g33 g34 g35) (fun g38 g39 g40 => if g38 = 0 then (some ((-1 : Int32), g21, g22, g23, g24, g25, g26, g27, g28, g29, g30, g31, g32, g38, g39, g40, x1)) else (zc1 (F_X6_signAt x_length x_signs g39) (fun v43 => if v43 = (59 : Int32) then (bd (x1 + (1 : Int32)) (fun v46 => ag18 v46 g21 g22 g23 g24 g25 g26 g27 g28 g29 g30 g31 g32 g38 g39 g40 x1)) else (some (g39, g21, g22, g23, g24, g25, g26, g27, g28, g29, g30, g31, g32, g38, g39, g40, x1))))))))
def bM (m_length : Int32) (m_text : Nat → Int32) : Int32 → Int32 → Int32 → Int32 → Int32 → Int32 → Int32 → (Nat → Int32) → (Int32 → Int32 → Int32 → Int32 → Int32 → Int32 → Int32 → (Nat → Int32) → Option (Int32 × Int32 × Int32 × Int32 × Int32 × Int32 × Int32 × Int32 × (Nat → Int32))) → Option (Int32 × Int32 × Int32 × Int32 × Int32 × Int32 × Int32 × Int32 × (Nat → Int32)) := fun h16 h17 h18 h19 h20 h21 h22 h23 ag24 => if m_length ≤ h18 then (some ((-1 : Int32), h16, h17, h18, h19, h20, h21, h22, h23)) else (zj1 (fun y26 => zj9 (fun x28 h29 h30 h31 h32 h33 h34 h35 h36 => if x28 = 0 then (some (h31, h29, h30, h31, h32, h33, h34, h35, h36)) else (ag24 h29 h30 h31 h32 h33 h34 h35 h36)) (fun K37 => if y26 = 0 then (K37 y26 h16 h17 h18 h19 h20 h21 h22 h23) else (zc3 (F_X9_token m_length h17 h18 h19 m_text) (fun g40 g41 g42 => zc9 (F_X9_readsLine m_length h16 g40 g41 g42 h20 h21 h22 m_text h23) (fun v44 g45 g46 g47 g48 g49 g50 g51 g52 => K37 v44 g45 g46 g47 g48 g49 g50 g51 g52))))) (fun K27 => if (h19 - h18) = (1 : Int32) then (rd 200 m_text h18 (fun v55 => if v55 = (59 : Int32) then (if (12 : Int32) ≤ h16 then (K27 (0 : Int32)) else (K27 (1 : Int32))) else (K27 (0 : Int32)))) else (K27 (0 : Int32))))
theorem bC_e (x_length : Int32) (x_signs : Nat → Int32) (x1 : Int32) (h2 : Int32) (h3 : Int32) (h4 : Int32) (h5 : (Nat → Int32)) (h6 : (Nat → Int32)) (h7 : (Nat → Int32)) (h8 : (Nat → Int32)) (h9 : (Nat → Int32)) (h10 : (Nat → Int32)) (h11 : (Nat → Int32)) (h12 : (Nat → Int32)) (h13 : (Nat → Int32)) (h14 : Int32) (h15 : Int32) (h16 : Int32) (h17 : Int32) (ag18 : Int32 → Int32 → Int32 → Int32 → (Nat → Int32) → (Nat → Int32) → (Nat → Int32) → (Nat → Int32) → (Nat → Int32) → (Nat → Int32) → (Nat → Int32) → (Nat → Int32) → (Nat → Int32) → Int32 → Int32 → Int32 → Int32 → Option (Int32 × Int32 × Int32 × Int32 × (Nat → Int32) × (Nat → Int32) × (Nat → Int32) × (Nat → Int32) × (Nat → Int32) × (Nat → Int32) × (Nat → Int32) × (Nat → Int32) × (Nat → Int32) × Int32 × Int32 × Int32 × Int32)) : bC x_length x_signs x1 h2 h3 h4 h5 h6 h7 h8 h9 h10 h11 h12 h13 h14 h15 h16 h17 ag18 = if (12 : Int32) < x1 then (some (h15, h2, h3, h4, h5, h6, h7, h8, h9, h10, h11, h12, h13, h14, h15, h16, h17)) else (zc16 (F_X4_readLine x_length x_signs h2 h3 h4 h5 h6 h7 h8 h9 h10 h11 h12 h13 h14 h15 h16) (fun v20 g21 g22 g23 g24 g25 g26 g27 g28 g29 g30 g31 g32 g33 g34 g35 => if v20 = 0 then (some (g34, g21, g22, g23, g24, g25, g26, g27, g28, g29, g30, g31, g32, g33, g34, g35, h17)) else (zc3 (F_X4_toNextToken x_length x_signs g33 g34 g35) (fun g38 g39 g40 => if g38 = 0 then (some ((-1 : Int32), g21, g22, g23, g24, g25, g26, g27, g28, g29, g30, g31, g32, g38, g39, g40, x1)) else (zc1 (F_X6_signAt x_length x_signs g39) (fun v43 => if v43 = (59 : Int32) then (bd (x1 + (1 : Int32)) (fun v46 => ag18 v46 g21 g22 g23 g24 g25 g26 g27 g28 g29 g30 g31 g32 g38 g39 g40 x1)) else (some (g39, g21, g22, g23, g24, g25, g26, g27, g28, g29, g30, g31, g32, g38, g39, g40, x1)))))))) := rfl
theorem bM_e (m_length : Int32) (m_text : Nat → Int32) (h16 : Int32) (h17 : Int32) (h18 : Int32) (h19 : Int32) (h20 : Int32) (h21 : Int32) (h22 : Int32) (h23 : (Nat → Int32)) (ag24 : Int32 → Int32 → Int32 → Int32 → Int32 → Int32 → Int32 → (Nat → Int32) → Option (Int32 × Int32 × Int32 × Int32 × Int32 × Int32 × Int32 × Int32 × (Nat → Int32))) : bM m_length m_text h16 h17 h18 h19 h20 h21 h22 h23 ag24 = if m_length ≤ h18 then (some ((-1 : Int32), h16, h17, h18, h19, h20, h21, h22, h23)) else (zj1 (fun y26 => zj9 (fun x28 h29 h30 h31 h32 h33 h34 h35 h36 => if x28 = 0 then (some (h31, h29, h30, h31, h32, h33, h34, h35, h36)) else (ag24 h29 h30 h31 h32 h33 h34 h35 h36)) (fun K37 => if y26 = 0 then (K37 y26 h16 h17 h18 h19 h20 h21 h22 h23) else (zc3 (F_X9_token m_length h17 h18 h19 m_text) (fun g40 g41 g42 => zc9 (F_X9_readsLine m_length h16 g40 g41 g42 h20 h21 h22 m_text h23) (fun v44 g45 g46 g47 g48 g49 g50 g51 g52 => K37 v44 g45 g46 g47 g48 g49 g50 g51 g52))))) (fun K27 => if (h19 - h18) = (1 : Int32) then (rd 200 m_text h18 (fun v55 => if v55 = (59 : Int32) then (if (12 : Int32) ≤ h16 then (K27 (0 : Int32)) else (K27 (1 : Int32))) else (K27 (0 : Int32)))) else (K27 (0 : Int32)))) := rfl
theorem zj9E {A1 A2 A3 A4 A5 A6 A7 A8 A9 β : Type} (rest : A1 → A2 → A3 → A4 → A5 → A6 → A7 → A8 → A9 → Option β) (reg : (A1 → A2 → A3 → A4 → A5 → A6 → A7 → A8 → A9 → Option β) → Option β) : zj9 rest reg = reg rest := rfl
section
variable {len mlen : Int32} {sg mt : Nat → Int32} {L : Nat} {ch : Nat → Nat}
theorem b_lines (hX : txR len sg mlen mt L ch) {T0 : TA} : ∀ (n k : Nat) {T : TA} {a fc fm : Nat} {gy gs gc r1 r2 r4 : Int32} {gt gsy gsz ggr glv gk gcy gp ge rdA : Nat → Int32}, 12 - k ≤ n → k < 12 → n + 1 ≤ fc → n ≤ fm → okT T → a ≤ L → rT gy gs gc gt gsy gsz ggr glv gk gcy gp ge T → lnC rdA T0 k T →
    ∃ ans gy' gs' gc' gt' gsy' gsz' ggr' glv' gk' gcy' gp' ge' s' b' e' li rm' at' pl' en' ry' rs' rc' read', zl17 (bC len sg) fc (nI (k + 1)) gy gs gc gt gsy gsz ggr glv gk gcy gp ge r1 r2 (nI a) r4 = some (ans, gy', gs', gc', gt', gsy', gsz', ggr', glv', gk', gcy', gp', ge', s', b', e', li) ∧ zc9 (F_X9_readsLine mlen (nI k) (nI (nxE L ch a)) (nI (tB L ch a)) (nI (nxE L ch a)) (nI (tY T)) (nI (tS T)) (nI (tC T)) mt rdA) (fun v5 g6 g7 g8 g9 g10 g11 g12 g13 => if v5 = 0 then (some (g8, g6, g7, g8, g9, g10, g11, g12, g13)) else (zl8 (bM mlen mt) fm g6 g7 g8 g9 g10 g11 g12 g13)) = some (ans, rm', at', pl', en', ry', rs', rc', read') ∧ (ans = -1 → ∃ T' m, okT T' ∧ rT gy' gs' gc' gt' gsy' gsz' ggr' glv' gk' gcy' gp' ge' T' ∧ m ≤ 12 ∧ li = nI m ∧ rm' = nI m ∧ lnC read' T0 m T') := by
  intro n
  induction n with
  | zero => intros; omega
  | succ n ih =>
    intro k T a fc fm gy gs gc r1 r2 r4 gt gsy gsz ggr glv gk gcy gp ge rdA h1 h2 hfc hfm hT ha hD hC
    have hL : L ≤ 200 := hX.2.2.1
    have one0 : ¬ (1 : Int32) = 0 := by decide
    obtain ⟨fc, rfl⟩ : ∃ u, fc = u + 2 := ⟨fc - 2, by omega⟩
    obtain ⟨fm, rfl⟩ : ∃ u, fm = u + 1 := ⟨fm - 1, by omega⟩
    obtain ⟨ok, gy', gs', gc', gt', gsy', gsz', ggr', glv', gk', gcy', gp', ge', s', b', e', rm', at', pl', en', ry', rs', rc', read', q1, q2, q3⟩ := b_line hX hT ha h2 (read := rdA) (r1 := r1) (r2 := r2) hD
    rw [q2, zc9_e]
    have hz17 : ∀ (fu : Nat) a1 a2 a3 a4 a5 a6 a7 a8 a9 a10 a11 a12 a13 a14 a15 a16 a17, zl17 (bC len sg) (fu + 1) a1 a2 a3 a4 a5 a6 a7 a8 a9 a10 a11 a12 a13 a14 a15 a16 a17 = bC len sg a1 a2 a3 a4 a5 a6 a7 a8 a9 a10 a11 a12 a13 a14 a15 a16 a17 (zl17 (bC len sg) fu) := fun _ _ _ _ _ _ _ _ _ _ _ _ _ _ _ _ _ _ => rfl
    have hz8 : ∀ (fu : Nat) a1 a2 a3 a4 a5 a6 a7 a8, zl8 (bM mlen mt) (fu + 1) a1 a2 a3 a4 a5 a6 a7 a8 = bM mlen mt a1 a2 a3 a4 a5 a6 a7 a8 (zl8 (bM mlen mt) fu) := fun _ _ _ _ _ _ _ _ _ => rfl
    rw [show fc + 2 = (fc + 1) + 1 from rfl, hz17]
    rw [bC_e, if_neg (show ¬ (12 : Int32) < nI (k + 1) from by rw [show (12 : Int32) = nI 12 from rfl, ltN (by omega) (by omega)]; omega), q1, zc16_e]
    rcases q3 with ⟨rfl, q4, q, q5, q6⟩ | ⟨rfl, T', p, t1, t2, t3, t4, t5, t6, t7, t8, t9, t10, t11, t12, t13⟩
    · rw [if_pos (show (0 : Int32) = 0 from rfl), if_pos (show (0 : Int32) = 0 from rfl)]
      refine ⟨b', _, _, _, _, _, _, _, _, _, _, _, _, _, _, _, _, _, _, _, _, _, _, _, _, rfl, by rw [q4], fun h => ?_⟩
      rw [q6] at h
      exact absurd h (by rw [neM1 (by omega)]; exact id)
    · rw [if_neg one0, if_neg one0, t4, v_token hX t2, zc3_e, hz8, t5, t6, t7, t8]
      have hbp := (tB_ok (ch := ch) t2).2
      obtain ⟨e1, e2, e3, e4⟩ := tE_ok (ch := ch) hbp
      have hC' : lnC read' T0 (k + 1) T' := ⟨T, lnC_frame k T t12 hC, hT, t13⟩
      rw [bM_e]
      by_cases hend : tB L ch p = L
      · have c0 : csN L ch (tB L ch p) = 0 := by unfold csN; rw [if_neg (by omega)]
        rw [c0, if_pos (show nI 0 = (0 : Int32) from rfl), if_pos (by rw [hX.2.1, hend]; exact nI_le (Nat.le_refl _) (by omega))]
        exact ⟨_, _, _, _, _, _, _, _, _, _, _, _, _, _, _, _, _, _, _, _, _, _, _, _, _, rfl, rfl, fun _ => ⟨T', k + 1, t1, t3, by omega, rfl, rfl, hC'⟩⟩
      · have hlt : tB L ch p < L := by omega
        have hsl := srt_le (ch (tB L ch p))
        have hb256 := (hX.2.2.2 _ hlt).2.2
        have hcs : ¬ nI (csN L ch (tB L ch p)) = (0 : Int32) := by
          have : csN L ch (tB L ch p) ≤ 3 ∧ csN L ch (tB L ch p) ≠ 0 := by
            unfold csN
            rw [if_pos hlt]
            split <;> omega
          rw [eq0N (by omega)]; omega
        rw [if_neg hcs, v_signAt hX hlt, zc1_e, if_neg (show ¬ mlen ≤ nI (tB L ch p) from by rw [hX.2.1]; exact nI_ge hlt (by omega))]
        rw [zj1E]
        try dsimp only
        rw [pk_sub e1]
        have hrd : ∀ {β : Type} (k : Int32 → Option β), rd 200 mt (nI (tB L ch p)) k = k (nI (ch (tB L ch p))) := fun k => by rw [rdN (by omega) (by omega), (hX.2.2.2 _ hlt).1]
        by_cases h59 : ch (tB L ch p) = 59
        · have hs0 : srt (ch (tB L ch p)) = 0 := by rw [h59]; decide
          have hE1 : nxE L ch p = tB L ch p + 1 := by show tE L ch (tB L ch p) = _; unfold tE; rw [if_pos hlt, if_pos hs0]
          rw [h59, if_pos (show nI 59 = (59 : Int32) from rfl), bdE, nI_1, if_pos (show nI (tE L ch (tB L ch p) - tB L ch p) = (1 : Int32) from by rw [show tE L ch (tB L ch p) = tB L ch p + 1 from hE1, Nat.add_sub_cancel_left]; rfl), hrd, h59, if_pos (show nI 59 = (59 : Int32) from rfl)]
          by_cases h12 : 12 ≤ k + 1
          · rw [if_pos (show (12 : Int32) ≤ nI (k + 1) from nI_le (a := 12) h12 (by omega)), zj9E]
            try dsimp only
            rw [if_pos (show (0 : Int32) = 0 from rfl), if_pos (show (0 : Int32) = 0 from rfl), hz17]
            rw [bC_e, if_pos (show (12 : Int32) < nI (k + 1 + 1) from nI_lt (a := 12) (by omega) (by omega))]
            refine ⟨nI (tB L ch p), _, _, _, _, _, _, _, _, _, _, _, _, _, _, _, _, _, _, _, _, _, _, _, _, rfl, rfl, fun h => ?_⟩
            exact absurd h (by rw [neM1 (by omega)]; exact id)
          · rw [if_neg (show ¬ (12 : Int32) ≤ nI (k + 1) from by rw [show (12 : Int32) = nI 12 from rfl, leN (by omega) (by omega)]; exact h12), zj9E]
            try dsimp only
            rw [if_neg one0, show F_X9_token mlen (nI (nxE L ch p)) (nI (tB L ch p)) (nI (nxE L ch p)) mt = _ from m_token hX (nxE_le t2), zc3_e, t9, t10, t11]
            exact ih (k + 1) (by omega) (by omega) (by omega) (by omega) t1 (nxE_le t2) t3 hC'
        · rw [if_neg (show ¬ nI (ch (tB L ch p)) = (59 : Int32) from by rw [show (59 : Int32) = nI 59 from rfl, eqN (by omega) (by omega)]; exact h59)]
          have h59' : ¬ nI (ch (tB L ch p)) = (59 : Int32) := by rw [show (59 : Int32) = nI 59 from rfl, eqN (by omega) (by omega)]; exact h59
          by_cases he : nI (tE L ch (tB L ch p) - tB L ch p) = (1 : Int32)
          · rw [if_pos he, hrd, if_neg h59', zj9E]
            try dsimp only
            rw [if_pos (show (0 : Int32) = 0 from rfl), if_pos (show (0 : Int32) = 0 from rfl)]
            refine ⟨nI (tB L ch p), _, _, _, _, _, _, _, _, _, _, _, _, _, _, _, _, _, _, _, _, _, _, _, _, rfl, rfl, fun h => ?_⟩
            exact absurd h (by rw [neM1 (by omega)]; exact id)
          · rw [if_neg he, zj9E]
            try dsimp only
            rw [if_pos (show (0 : Int32) = 0 from rfl), if_pos (show (0 : Int32) = 0 from rfl)]
            refine ⟨nI (tB L ch p), _, _, _, _, _, _, _, _, _, _, _, _, _, _, _, _, _, _, _, _, _, _, _, _, rfl, rfl, fun h => ?_⟩
            exact absurd h (by rw [neM1 (by omega)]; exact id)
end
