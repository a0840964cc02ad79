theorem w0_pay0 {w : Cond} (h : w ∈ W0) : w ∈ W0 ∧ ((w.onTables && w.keeps) = true ∨ ∃ ty, w = .arrayClass ty) := ⟨h, good_of_word (W0_good h)⟩
theorem w0_all0 {d : Cond} (hd : d ∈ W0) : GoodIn W0 (d :: W0) := fun w hw => (List.mem_cons.mp hw).elim (fun e => e ▸ w0_pay0 hd) w0_pay0
theorem w0_V0 {d : Cond} {own : String} {idx : Nat} {C : String} {y : MethodName} (hd : d ∈ W0) (h1 : Cond.methodLink own idx y ∈ W0) (h2 : Cond.instanceMethod y ∈ W0) (h3 : Cond.selects C y y ∈ W0) (h4 : Cond.initialized C ∈ W0) : GoodIn W0 (wsV own idx C y (d :: W0)) := by
  intro w hw
  unfold wsV at hw
  rcases List.mem_append.mp hw with h | h
  · simp only [List.mem_cons, List.not_mem_nil, or_false] at h
    rcases h with rfl | rfl | rfl | rfl
    · exact w0_pay0 h1
    · exact w0_pay0 h2
    · exact w0_pay0 h3
    · exact w0_pay0 h4
  · exact w0_all0 hd w h
theorem w0_S0 {d : Cond} {own : String} {idx : Nat} {y : MethodName} (hd : d ∈ W0) (h1 : Cond.methodLink own idx y ∈ W0) (h2 : Cond.static y ∈ W0) (h4 : Cond.initialized y.cls ∈ W0) : GoodIn W0 (va_wsS own idx y (d :: W0)) := by
  intro w hw
  unfold va_wsS at hw
  rcases List.mem_append.mp hw with h | h
  · simp only [List.mem_cons, List.not_mem_nil, or_false] at h
    rcases h with rfl | rfl | rfl
    · exact w0_pay0 h1
    · exact w0_pay0 h2
    · exact w0_pay0 h4
  · exact w0_all0 hd w h
theorem tb_out {x : Int32} {n : Nat} (hn : n < 2 ^ 31) (h : ∀ i : Nat, i < n → ¬ x = nI i) : x.toInt < 0 ∨ (n : Int) - 1 < x.toInt := by
  rcases Int.lt_or_le x.toInt 0 with a | a
  · exact Or.inl a
  · refine Or.inr ?_
    rcases Int.lt_or_le ((n : Int) - 1) x.toInt with b | b
    · exact b
    · exfalso
      refine h x.toInt.toNat (by omega) (Int32.toInt_inj.mp ?_)
      rw [nI_toInt (by omega)]
      omega
