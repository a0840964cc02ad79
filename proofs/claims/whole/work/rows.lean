section
/-! words of the tables, by chunk and place; the one list W0 of good words that every method bears -/
theorem tm1 {w : Cond} (i : Nat) (h : tables_1_1[i]? = some w) : w ∈ tables_1 := by
  unfold tables_1
  exact List.mem_append_left _ (List.mem_of_getElem? h)
theorem tm2 {w : Cond} (i : Nat) (h : tables_1_2[i]? = some w) : w ∈ tables_1 := by
  unfold tables_1
  exact List.mem_append_right _ (List.mem_append_left _ (List.mem_of_getElem? h))
theorem tm3 {w : Cond} (i : Nat) (h : tables_1_3[i]? = some w) : w ∈ tables_1 := by
  unfold tables_1
  exact List.mem_append_right _ (List.mem_append_right _ (List.mem_append_left _ (List.mem_of_getElem? h)))
theorem tm4 {w : Cond} (i : Nat) (h : tables_1_4[i]? = some w) : w ∈ tables_1 := by
  unfold tables_1
  exact List.mem_append_right _ (List.mem_append_right _ (List.mem_append_right _ (List.mem_append_left _ (List.mem_of_getElem? h))))
theorem tm5 {w : Cond} (i : Nat) (h : tables_1_5[i]? = some w) : w ∈ tables_1 := by
  unfold tables_1
  exact List.mem_append_right _ (List.mem_append_right _ (List.mem_append_right _ (List.mem_append_right _ (List.mem_of_getElem? h))))
def lw_okq (q : MethodName × Nat) : Prop := (q.1.cls ≠ "java/lang/invoke/MethodHandle" ∧ q.1.cls ≠ "java/lang/invoke/VarHandle") ∧ Cond.instantiable q.1.cls q.2 ∈ tables_1 ∧ Cond.privateMethod q.1 ∈ tables_1 ∧ Cond.instanceMethod q.1 ∈ tables_1
theorem lw_p0 : lw_okq (⟨"DikeWatch$Reader", "readLine", "()Z"⟩, 6) := ⟨⟨by decide, by decide⟩, (tm1 170 rfl), (tm2 93 rfl), (tm2 94 rfl)⟩
theorem lw_p1 : lw_okq (⟨"DikeWatch$Reader", "toNextToken", "()V"⟩, 6) := ⟨⟨by decide, by decide⟩, (tm1 170 rfl), (tm2 97 rfl), (tm2 98 rfl)⟩
theorem lw_p2 : lw_okq (⟨"DikeWatch$Reader", "isWord", "(Ljava/lang/String;)Z"⟩, 6) := ⟨⟨by decide, by decide⟩, (tm1 170 rfl), (tm2 109 rfl), (tm2 110 rfl)⟩
theorem lw_p3 : lw_okq (⟨"DikeWatch$Reader", "readDike", "()Z"⟩, 6) := ⟨⟨by decide, by decide⟩, (tm1 170 rfl), (tm2 161 rfl), (tm2 162 rfl)⟩
theorem lw_p4 : lw_okq (⟨"DikeWatch$Reader", "readNumber", "(II)I"⟩, 6) := ⟨⟨by decide, by decide⟩, (tm1 170 rfl), (tm2 165 rfl), (tm2 166 rfl)⟩
theorem lw_p5 : lw_okq (⟨"DikeWatch$Reader", "readTide", "()Z"⟩, 6) := ⟨⟨by decide, by decide⟩, (tm1 170 rfl), (tm2 178 rfl), (tm2 179 rfl)⟩
theorem lw_p6 : lw_okq (⟨"DikeWatch$Reader", "readSeep", "()Z"⟩, 6) := ⟨⟨by decide, by decide⟩, (tm1 170 rfl), (tm2 183 rfl), (tm2 184 rfl)⟩
theorem lw_p7 : lw_okq (⟨"DikeWatch$Reader", "kindOfWord", "()I"⟩, 6) := ⟨⟨by decide, by decide⟩, (tm1 170 rfl), (tm2 198 rfl), (tm2 199 rfl)⟩
theorem lw_p8 : lw_okq (⟨"DikeWatch$Reader", "readChild", "(I)Z"⟩, 6) := ⟨⟨by decide, by decide⟩, (tm1 170 rfl), (tm2 206 rfl), (tm2 207 rfl)⟩
theorem lw_p9 : lw_okq (⟨"DikeWatch$Night", "growSeeps", "()V"⟩, 7) := ⟨⟨by decide, by decide⟩, (tm1 113 rfl), (tm3 81 rfl), (tm3 82 rfl)⟩
theorem lw_p10 : lw_okq (⟨"DikeWatch", "keptNight", "(I)LDikeWatch$Night;"⟩, 12) := ⟨⟨by decide, by decide⟩, (tm1 20 rfl), (tm3 127 rfl), (tm3 128 rfl)⟩
theorem lw_p11 : lw_okq (⟨"DikeWatch$Foretold", "findBreaking", "()I"⟩, 5) := ⟨⟨by decide, by decide⟩, (tm1 148 rfl), (tm3 174 rfl), (tm3 175 rfl)⟩
theorem lw_p12 : lw_okq (⟨"DikeWatch$Foretold", "findHeardInTime", "(II)I"⟩, 5) := ⟨⟨by decide, by decide⟩, (tm1 148 rfl), (tm3 181 rfl), (tm3 182 rfl)⟩
theorem lw_p13 : lw_okq (⟨"DikeWatch$Foretold", "lastBreakHour", "(I)I"⟩, 5) := ⟨⟨by decide, by decide⟩, (tm1 148 rfl), (tm3 185 rfl), (tm3 186 rfl)⟩
theorem lw_p14 : lw_okq (⟨"DikeWatch$Foretold", "unbrokenIn", "(II)I"⟩, 5) := ⟨⟨by decide, by decide⟩, (tm1 148 rfl), (tm3 191 rfl), (tm3 192 rfl)⟩
theorem lw_p15 : lw_okq (⟨"DikeWatch$Foretold", "heardTogether", "(I)I"⟩, 5) := ⟨⟨by decide, by decide⟩, (tm1 148 rfl), (tm3 210 rfl), (tm3 211 rfl)⟩
theorem lw_p16 : lw_okq (⟨"DikeWatch$Men", "layFirstRow", "(I)V"⟩, 7) := ⟨⟨by decide, by decide⟩, (tm1 196 rfl), (tm3 227 rfl), (tm3 228 rfl)⟩
theorem lw_p17 : lw_okq (⟨"DikeWatch$Men", "lostByRow", "(I)I"⟩, 7) := ⟨⟨by decide, by decide⟩, (tm1 196 rfl), (tm3 233 rfl), (tm3 234 rfl)⟩
theorem lw_p18 : lw_okq (⟨"DikeWatch$Men", "layNextRow", "()Z"⟩, 7) := ⟨⟨by decide, by decide⟩, (tm1 196 rfl), (tm3 239 rfl), (tm4 0 rfl)⟩
theorem lw_p19 : lw_okq (⟨"DikeWatch$Men", "swap", "(II)V"⟩, 7) := ⟨⟨by decide, by decide⟩, (tm1 196 rfl), (tm4 3 rfl), (tm4 4 rfl)⟩
theorem lw_p20 : lw_okq (⟨"DikeWatch$Storms", "countWays", "(II)V"⟩, 3) := ⟨⟨by decide, by decide⟩, (tm1 225 rfl), (tm4 25 rfl), (tm4 26 rfl)⟩
theorem lw_p21 : lw_okq (⟨"DikeWatch$Storms", "cancel", "(I)V"⟩, 3) := ⟨⟨by decide, by decide⟩, (tm1 225 rfl), (tm4 33 rfl), (tm4 34 rfl)⟩
theorem lw_p22 : lw_okq (⟨"DikeWatchModel", "token", "()V"⟩, 26) := ⟨⟨by decide, by decide⟩, (tm4 88 rfl), (tm4 191 rfl), (tm4 192 rfl)⟩
theorem lw_p23 : lw_okq (⟨"DikeWatchModel", "readsLine", "()Z"⟩, 26) := ⟨⟨by decide, by decide⟩, (tm4 88 rfl), (tm4 198 rfl), (tm4 199 rfl)⟩
theorem lw_p24 : lw_okq (⟨"DikeWatchModel", "wordOf", "()I"⟩, 26) := ⟨⟨by decide, by decide⟩, (tm4 88 rfl), (tm4 202 rfl), (tm4 203 rfl)⟩
theorem lw_p25 : lw_okq (⟨"DikeWatchModel", "childWord", "()I"⟩, 26) := ⟨⟨by decide, by decide⟩, (tm4 88 rfl), (tm4 206 rfl), (tm4 207 rfl)⟩
theorem lw_p26 : lw_okq (⟨"DikeWatchModel", "isWord", "(II)Z"⟩, 26) := ⟨⟨by decide, by decide⟩, (tm4 88 rfl), (tm4 211 rfl), (tm4 212 rfl)⟩
theorem lw_p27 : lw_okq (⟨"DikeWatchModel", "readsRest", "(I)Z"⟩, 26) := ⟨⟨by decide, by decide⟩, (tm4 88 rfl), (tm4 227 rfl), (tm4 228 rfl)⟩
theorem lw_p28 : lw_okq (⟨"DikeWatchModel", "reads", "(III)Z"⟩, 26) := ⟨⟨by decide, by decide⟩, (tm4 88 rfl), (tm4 231 rfl), (tm4 232 rfl)⟩
theorem lw_p29 : lw_okq (⟨"DikeWatchModel", "tell", "(I)V"⟩, 26) := ⟨⟨by decide, by decide⟩, (tm4 88 rfl), (tm5 0 rfl), (tm5 1 rfl)⟩
theorem lw_p30 : lw_okq (⟨"DikeWatchModel", "clear", "(I)V"⟩, 26) := ⟨⟨by decide, by decide⟩, (tm4 88 rfl), (tm5 4 rfl), (tm5 5 rfl)⟩
theorem lw_p31 : lw_okq (⟨"DikeWatchModel", "copy", "(II)V"⟩, 26) := ⟨⟨by decide, by decide⟩, (tm4 88 rfl), (tm5 8 rfl), (tm5 9 rfl)⟩
theorem lw_p32 : lw_okq (⟨"DikeWatchModel", "isSeep", "(I)Z"⟩, 26) := ⟨⟨by decide, by decide⟩, (tm4 88 rfl), (tm5 21 rfl), (tm5 22 rfl)⟩
theorem lw_p33 : lw_okq (⟨"DikeWatchModel", "isChild", "(I)Z"⟩, 26) := ⟨⟨by decide, by decide⟩, (tm4 88 rfl), (tm5 29 rfl), (tm5 30 rfl)⟩
theorem lw_p34 : lw_okq (⟨"DikeWatchModel", "earOf", "(II)I"⟩, 26) := ⟨⟨by decide, by decide⟩, (tm4 88 rfl), (tm5 33 rfl), (tm5 34 rfl)⟩
theorem lw_p35 : lw_okq (⟨"DikeWatchModel", "tells", "(I)I"⟩, 26) := ⟨⟨by decide, by decide⟩, (tm4 88 rfl), (tm5 37 rfl), (tm5 38 rfl)⟩
theorem lw_p36 : lw_okq (⟨"DikeWatchModel", "hears", "(II)I"⟩, 26) := ⟨⟨by decide, by decide⟩, (tm4 88 rfl), (tm5 41 rfl), (tm5 42 rfl)⟩
theorem lw_p37 : lw_okq (⟨"DikeWatchModel", "heardAt", "(III)I"⟩, 26) := ⟨⟨by decide, by decide⟩, (tm4 88 rfl), (tm5 45 rfl), (tm5 46 rfl)⟩
theorem lw_p38 : lw_okq (⟨"DikeWatchModel", "hour", "(I)V"⟩, 26) := ⟨⟨by decide, by decide⟩, (tm4 88 rfl), (tm5 65 rfl), (tm5 66 rfl)⟩
theorem lw_p39 : lw_okq (⟨"DikeWatchModel", "walk", "(II)V"⟩, 26) := ⟨⟨by decide, by decide⟩, (tm4 88 rfl), (tm5 69 rfl), (tm5 70 rfl)⟩
theorem lw_p40 : lw_okq (⟨"DikeWatchModel", "isYard", "(I)Z"⟩, 26) := ⟨⟨by decide, by decide⟩, (tm4 88 rfl), (tm5 77 rfl), (tm5 78 rfl)⟩
theorem lw_p41 : lw_okq (⟨"DikeWatchModel", "breaksIn", "(I)I"⟩, 26) := ⟨⟨by decide, by decide⟩, (tm4 88 rfl), (tm5 98 rfl), (tm5 99 rfl)⟩
theorem lw_p42 : lw_okq (⟨"DikeWatchModel", "layHearers", "()V"⟩, 26) := ⟨⟨by decide, by decide⟩, (tm4 88 rfl), (tm5 106 rfl), (tm5 107 rfl)⟩
theorem lw_p43 : lw_okq (⟨"DikeWatchModel", "heardBy", "(I)I"⟩, 26) := ⟨⟨by decide, by decide⟩, (tm4 88 rfl), (tm5 110 rfl), (tm5 111 rfl)⟩
theorem lw_p44 : lw_okq (⟨"DikeWatchModel", "missedBy", "(I)I"⟩, 26) := ⟨⟨by decide, by decide⟩, (tm4 88 rfl), (tm5 114 rfl), (tm5 115 rfl)⟩
theorem lw_p45 : lw_okq (⟨"DikeWatchModel", "lostBy", "(II)I"⟩, 26) := ⟨⟨by decide, by decide⟩, (tm4 88 rfl), (tm5 129 rfl), (tm5 130 rfl)⟩
theorem lw_p46 : lw_okq (⟨"DikeWatchModel", "rowOf", "(II)I"⟩, 26) := ⟨⟨by decide, by decide⟩, (tm4 88 rfl), (tm5 133 rfl), (tm5 134 rfl)⟩
theorem lw_p47 : lw_okq (⟨"DikeWatchModel", "growths", "(I)I"⟩, 26) := ⟨⟨by decide, by decide⟩, (tm4 88 rfl), (tm5 146 rfl), (tm5 147 rfl)⟩
theorem lw_p48 : lw_okq (⟨"DikeWatchModel", "see", "(III)I"⟩, 26) := ⟨⟨by decide, by decide⟩, (tm4 88 rfl), (tm5 162 rfl), (tm5 163 rfl)⟩
theorem lw_p49 : lw_okq (⟨"DikeWatchModel", "placesOf", "()I"⟩, 26) := ⟨⟨by decide, by decide⟩, (tm4 88 rfl), (tm5 178 rfl), (tm5 179 rfl)⟩
theorem lw_p50 : lw_okq (⟨"DikeWatchModel", "canBe", "(I)Z"⟩, 26) := ⟨⟨by decide, by decide⟩, (tm4 88 rfl), (tm5 182 rfl), (tm5 183 rfl)⟩
def lw_privs : List (MethodName × Nat) := [(⟨"DikeWatch$Reader", "readLine", "()Z"⟩, 6), (⟨"DikeWatch$Reader", "toNextToken", "()V"⟩, 6), (⟨"DikeWatch$Reader", "isWord", "(Ljava/lang/String;)Z"⟩, 6), (⟨"DikeWatch$Reader", "readDike", "()Z"⟩, 6), (⟨"DikeWatch$Reader", "readNumber", "(II)I"⟩, 6), (⟨"DikeWatch$Reader", "readTide", "()Z"⟩, 6), (⟨"DikeWatch$Reader", "readSeep", "()Z"⟩, 6), (⟨"DikeWatch$Reader", "kindOfWord", "()I"⟩, 6), (⟨"DikeWatch$Reader", "readChild", "(I)Z"⟩, 6), (⟨"DikeWatch$Night", "growSeeps", "()V"⟩, 7), (⟨"DikeWatch", "keptNight", "(I)LDikeWatch$Night;"⟩, 12), (⟨"DikeWatch$Foretold", "findBreaking", "()I"⟩, 5), (⟨"DikeWatch$Foretold", "findHeardInTime", "(II)I"⟩, 5), (⟨"DikeWatch$Foretold", "lastBreakHour", "(I)I"⟩, 5), (⟨"DikeWatch$Foretold", "unbrokenIn", "(II)I"⟩, 5), (⟨"DikeWatch$Foretold", "heardTogether", "(I)I"⟩, 5), (⟨"DikeWatch$Men", "layFirstRow", "(I)V"⟩, 7), (⟨"DikeWatch$Men", "lostByRow", "(I)I"⟩, 7), (⟨"DikeWatch$Men", "layNextRow", "()Z"⟩, 7), (⟨"DikeWatch$Men", "swap", "(II)V"⟩, 7), (⟨"DikeWatch$Storms", "countWays", "(II)V"⟩, 3), (⟨"DikeWatch$Storms", "cancel", "(I)V"⟩, 3), (⟨"DikeWatchModel", "token", "()V"⟩, 26), (⟨"DikeWatchModel", "readsLine", "()Z"⟩, 26), (⟨"DikeWatchModel", "wordOf", "()I"⟩, 26), (⟨"DikeWatchModel", "childWord", "()I"⟩, 26), (⟨"DikeWatchModel", "isWord", "(II)Z"⟩, 26), (⟨"DikeWatchModel", "readsRest", "(I)Z"⟩, 26), (⟨"DikeWatchModel", "reads", "(III)Z"⟩, 26), (⟨"DikeWatchModel", "tell", "(I)V"⟩, 26), (⟨"DikeWatchModel", "clear", "(I)V"⟩, 26), (⟨"DikeWatchModel", "copy", "(II)V"⟩, 26), (⟨"DikeWatchModel", "isSeep", "(I)Z"⟩, 26), (⟨"DikeWatchModel", "isChild", "(I)Z"⟩, 26), (⟨"DikeWatchModel", "earOf", "(II)I"⟩, 26), (⟨"DikeWatchModel", "tells", "(I)I"⟩, 26), (⟨"DikeWatchModel", "hears", "(II)I"⟩, 26), (⟨"DikeWatchModel", "heardAt", "(III)I"⟩, 26), (⟨"DikeWatchModel", "hour", "(I)V"⟩, 26), (⟨"DikeWatchModel", "walk", "(II)V"⟩, 26), (⟨"DikeWatchModel", "isYard", "(I)Z"⟩, 26), (⟨"DikeWatchModel", "breaksIn", "(I)I"⟩, 26), (⟨"DikeWatchModel", "layHearers", "()V"⟩, 26), (⟨"DikeWatchModel", "heardBy", "(I)I"⟩, 26), (⟨"DikeWatchModel", "missedBy", "(I)I"⟩, 26), (⟨"DikeWatchModel", "lostBy", "(II)I"⟩, 26), (⟨"DikeWatchModel", "rowOf", "(II)I"⟩, 26), (⟨"DikeWatchModel", "growths", "(I)I"⟩, 26), (⟨"DikeWatchModel", "see", "(III)I"⟩, 26), (⟨"DikeWatchModel", "placesOf", "()I"⟩, 26), (⟨"DikeWatchModel", "canBe", "(I)Z"⟩, 26)]
theorem lw_privs_ok : ∀ q ∈ lw_privs, lw_okq q := List.forall_mem_cons.mpr ⟨lw_p0, List.forall_mem_cons.mpr ⟨lw_p1, List.forall_mem_cons.mpr ⟨lw_p2, List.forall_mem_cons.mpr ⟨lw_p3, List.forall_mem_cons.mpr ⟨lw_p4, List.forall_mem_cons.mpr ⟨lw_p5, List.forall_mem_cons.mpr ⟨lw_p6, List.forall_mem_cons.mpr ⟨lw_p7, List.forall_mem_cons.mpr ⟨lw_p8, List.forall_mem_cons.mpr ⟨lw_p9, List.forall_mem_cons.mpr ⟨lw_p10, List.forall_mem_cons.mpr ⟨lw_p11, List.forall_mem_cons.mpr ⟨lw_p12, List.forall_mem_cons.mpr ⟨lw_p13, List.forall_mem_cons.mpr ⟨lw_p14, List.forall_mem_cons.mpr ⟨lw_p15, List.forall_mem_cons.mpr ⟨lw_p16, List.forall_mem_cons.mpr ⟨lw_p17, List.forall_mem_cons.mpr ⟨lw_p18, List.forall_mem_cons.mpr ⟨lw_p19, List.forall_mem_cons.mpr ⟨lw_p20, List.forall_mem_cons.mpr ⟨lw_p21, List.forall_mem_cons.mpr ⟨lw_p22, List.forall_mem_cons.mpr ⟨lw_p23, List.forall_mem_cons.mpr ⟨lw_p24, List.forall_mem_cons.mpr ⟨lw_p25, List.forall_mem_cons.mpr ⟨lw_p26, List.forall_mem_cons.mpr ⟨lw_p27, List.forall_mem_cons.mpr ⟨lw_p28, List.forall_mem_cons.mpr ⟨lw_p29, List.forall_mem_cons.mpr ⟨lw_p30, List.forall_mem_cons.mpr ⟨lw_p31, List.forall_mem_cons.mpr ⟨lw_p32, List.forall_mem_cons.mpr ⟨lw_p33, List.forall_mem_cons.mpr ⟨lw_p34, List.forall_mem_cons.mpr ⟨lw_p35, List.forall_mem_cons.mpr ⟨lw_p36, List.forall_mem_cons.mpr ⟨lw_p37, List.forall_mem_cons.mpr ⟨lw_p38, List.forall_mem_cons.mpr ⟨lw_p39, List.forall_mem_cons.mpr ⟨lw_p40, List.forall_mem_cons.mpr ⟨lw_p41, List.forall_mem_cons.mpr ⟨lw_p42, List.forall_mem_cons.mpr ⟨lw_p43, List.forall_mem_cons.mpr ⟨lw_p44, List.forall_mem_cons.mpr ⟨lw_p45, List.forall_mem_cons.mpr ⟨lw_p46, List.forall_mem_cons.mpr ⟨lw_p47, List.forall_mem_cons.mpr ⟨lw_p48, List.forall_mem_cons.mpr ⟨lw_p49, List.forall_mem_cons.mpr ⟨lw_p50, fun _ h => absurd h List.not_mem_nil⟩⟩⟩⟩⟩⟩⟩⟩⟩⟩⟩⟩⟩⟩⟩⟩⟩⟩⟩⟩⟩⟩⟩⟩⟩⟩⟩⟩⟩⟩⟩⟩⟩⟩⟩⟩⟩⟩⟩⟩⟩⟩⟩⟩⟩⟩⟩⟩⟩⟩⟩
def lw_tbl : List Cond := k2_sels lw_privs ++ tables_1
def W0 : List Cond := lw_tbl.filter goodWord
theorem W0_tbl {w : Cond} (h : w ∈ W0) : w ∈ lw_tbl := (List.mem_filter.mp h).1
theorem W0_good {w : Cond} (h : w ∈ W0) : goodWord w = true := (List.mem_filter.mp h).2
theorem wm1 {w : Cond} (i : Nat) (h : tables_1_1[i]? = some w) (hg : goodWord w = true) : w ∈ W0 := List.mem_filter.mpr ⟨List.mem_append_right _ (tm1 i h), hg⟩
theorem wm2 {w : Cond} (i : Nat) (h : tables_1_2[i]? = some w) (hg : goodWord w = true) : w ∈ W0 := List.mem_filter.mpr ⟨List.mem_append_right _ (tm2 i h), hg⟩
theorem wm3 {w : Cond} (i : Nat) (h : tables_1_3[i]? = some w) (hg : goodWord w = true) : w ∈ W0 := List.mem_filter.mpr ⟨List.mem_append_right _ (tm3 i h), hg⟩
theorem wm4 {w : Cond} (i : Nat) (h : tables_1_4[i]? = some w) (hg : goodWord w = true) : w ∈ W0 := List.mem_filter.mpr ⟨List.mem_append_right _ (tm4 i h), hg⟩
theorem wm5 {w : Cond} (i : Nat) (h : tables_1_5[i]? = some w) (hg : goodWord w = true) : w ∈ W0 := List.mem_filter.mpr ⟨List.mem_append_right _ (tm5 i h), hg⟩
theorem ws0 {q : MethodName × Nat} (i : Nat) (h : lw_privs[i]? = some q) : Cond.selects q.1.cls q.1 q.1 ∈ W0 := List.mem_filter.mpr ⟨List.mem_append_left _ (List.mem_map.mpr ⟨q, List.mem_of_getElem? h, rfl⟩), rfl⟩
/-! ===== BEGIN printed: names, fields, word lists, decode rows ===== -/
def RX0 : String := "DikeWatch$Clues"
def TX0 : u_T := fun k => match k with
  | 0 => ("DikeWatch$Clues", "yards", "I", false)
  | 1 => ("DikeWatch$Clues", "count", "I", false)
  | _ => ("DikeWatch$Clues", "possible", "I", false)
def tyX0 : Nat → FieldType := fun k => match k with
  | 0 => .int
  | 1 => .int
  | _ => .int
abbrev wsX00 : List Cond := u_ws RX0 TX0 3
theorem nmX0 : ∀ a, a < 3 → ∀ b, b < 3 → a ≠ b → (TX0 a).2.1 ≠ (TX0 b).2.1 := by decide +kernel
theorem tyX0_ok : ∀ k, k < 3 → parseFieldDescriptor (TX0 k).2.2.1 = some (tyX0 k) := by decide +kernel
abbrev cX0_init : ByteArray := prog_2_method_1_code
def yX0_init : MethodName := ⟨RX0, "<init>", "()V"⟩
abbrev cX0_begin : ByteArray := prog_2_method_2_code
def yX0_begin : MethodName := ⟨RX0, "begin", "(I)V"⟩
abbrev cX0_add : ByteArray := prog_2_method_3_code
def yX0_add : MethodName := ⟨RX0, "add", "(I)I"⟩
abbrev cX0_yardsInEar : ByteArray := prog_2_method_4_code
def yX0_yardsInEar : MethodName := ⟨RX0, "yardsInEar", "(II)I"⟩
abbrev cX0_yardsPaying : ByteArray := prog_2_method_5_code
def yX0_yardsPaying : MethodName := ⟨RX0, "yardsPaying", "(II)I"⟩
abbrev cX0_surestYard : ByteArray := prog_2_method_6_code
def yX0_surestYard : MethodName := ⟨RX0, "surestYard", "(I)I"⟩
def RX1 : String := "DikeWatch$Foretold"
def TX1 : u_T := fun k => match k with
  | 0 => ("DikeWatch$Foretold", "told", "LDikeWatch$Told;", true)
  | 1 => ("DikeWatch$Foretold", "now", "LDikeWatch$Night;", true)
  | 2 => ("DikeWatch$Foretold", "ahead", "LDikeWatch$Night;", true)
  | 3 => ("DikeWatch$Foretold", "breakHour", "[I", true)
  | _ => ("DikeWatch$Foretold", "heardInTime", "[I", true)
def tyX1 : Nat → FieldType := fun k => match k with
  | 0 => .object "DikeWatch$Told"
  | 1 => .object "DikeWatch$Night"
  | 2 => .object "DikeWatch$Night"
  | 3 => .array .int
  | _ => .array .int
abbrev wsX10 : List Cond := u_ws RX1 TX1 5
theorem nmX1 : ∀ a, a < 5 → ∀ b, b < 5 → a ≠ b → (TX1 a).2.1 ≠ (TX1 b).2.1 := by decide +kernel
theorem tyX1_ok : ∀ k, k < 5 → parseFieldDescriptor (TX1 k).2.2.1 = some (tyX1 k) := by decide +kernel
abbrev cX1_init : ByteArray := prog_3_method_1_code
def yX1_init : MethodName := ⟨RX1, "<init>", "(LDikeWatch$Told;LDikeWatch$Night;LDikeWatch$Night;)V"⟩
abbrev cX1_nightIn : ByteArray := prog_3_method_2_code
def yX1_nightIn : MethodName := ⟨RX1, "nightIn", "(I)LDikeWatch$Night;"⟩
abbrev cX1_hoursToBreak : ByteArray := prog_3_method_3_code
def yX1_hoursToBreak : MethodName := ⟨RX1, "hoursToBreak", "(I)I"⟩
abbrev cX1_findBreaking : ByteArray := prog_3_method_4_code
def yX1_findBreaking : MethodName := ⟨RX1, "findBreaking", "()I"⟩
abbrev cX1_lastBreakHour : ByteArray := prog_3_method_5_code
def yX1_lastBreakHour : MethodName := ⟨RX1, "lastBreakHour", "(I)I"⟩
abbrev cX1_findHeardInTime : ByteArray := prog_3_method_6_code
def yX1_findHeardInTime : MethodName := ⟨RX1, "findHeardInTime", "(II)I"⟩
abbrev cX1_unbrokenIn : ByteArray := prog_3_method_7_code
def yX1_unbrokenIn : MethodName := ⟨RX1, "unbrokenIn", "(II)I"⟩
abbrev cX1_missedBy : ByteArray := prog_3_method_8_code
def yX1_missedBy : MethodName := ⟨RX1, "missedBy", "(I)I"⟩
abbrev cX1_leastWatch : ByteArray := prog_3_method_9_code
def yX1_leastWatch : MethodName := ⟨RX1, "leastWatch", "()I"⟩
abbrev cX1_heardTogether : ByteArray := prog_3_method_10_code
def yX1_heardTogether : MethodName := ⟨RX1, "heardTogether", "(I)I"⟩
def RX2 : String := "DikeWatch$Men"
def TX2 : u_T := fun k => match k with
  | 0 => ("DikeWatch$Men", "told", "LDikeWatch$Told;", true)
  | 1 => ("DikeWatch$Men", "foretold", "LDikeWatch$Foretold;", true)
  | 2 => ("DikeWatch$Men", "breakHour", "[I", true)
  | 3 => ("DikeWatch$Men", "row", "[I", true)
  | 4 => ("DikeWatch$Men", "bestRow", "[I", true)
  | 5 => ("DikeWatch$Men", "length", "I", false)
  | _ => ("DikeWatch$Men", "fewestLost", "I", false)
def tyX2 : Nat → FieldType := fun k => match k with
  | 0 => .object "DikeWatch$Told"
  | 1 => .object "DikeWatch$Foretold"
  | 2 => .array .int
  | 3 => .array .int
  | 4 => .array .int
  | 5 => .int
  | _ => .int
abbrev wsX20 : List Cond := u_ws RX2 TX2 7
theorem nmX2 : ∀ a, a < 7 → ∀ b, b < 7 → a ≠ b → (TX2 a).2.1 ≠ (TX2 b).2.1 := by decide +kernel
theorem tyX2_ok : ∀ k, k < 7 → parseFieldDescriptor (TX2 k).2.2.1 = some (tyX2 k) := by decide +kernel
abbrev cX2_init : ByteArray := prog_4_method_1_code
def yX2_init : MethodName := ⟨RX2, "<init>", "(LDikeWatch$Told;LDikeWatch$Foretold;)V"⟩
abbrev cX2_bestAt : ByteArray := prog_4_method_2_code
def yX2_bestAt : MethodName := ⟨RX2, "bestAt", "(I)I"⟩
abbrev cX2_findBestRow : ByteArray := prog_4_method_3_code
def yX2_findBestRow : MethodName := ⟨RX2, "findBestRow", "(II)V"⟩
abbrev cX2_layFirstRow : ByteArray := prog_4_method_4_code
def yX2_layFirstRow : MethodName := ⟨RX2, "layFirstRow", "(I)V"⟩
abbrev cX2_lostByRow : ByteArray := prog_4_method_5_code
def yX2_lostByRow : MethodName := ⟨RX2, "lostByRow", "(I)I"⟩
abbrev cX2_layNextRow : ByteArray := prog_4_method_6_code
def yX2_layNextRow : MethodName := ⟨RX2, "layNextRow", "()Z"⟩
abbrev cX2_swap : ByteArray := prog_4_method_7_code
def yX2_swap : MethodName := ⟨RX2, "swap", "(II)V"⟩
def RX3 : String := "DikeWatch$Night"
def TX3 : u_T := fun k => match k with
  | 0 => ("DikeWatch$Night", "told", "LDikeWatch$Told;", true)
  | 1 => ("DikeWatch$Night", "hours", "I", false)
  | 2 => ("DikeWatch$Night", "filled", "I", false)
  | 3 => ("DikeWatch$Night", "size", "[I", true)
  | 4 => ("DikeWatch$Night", "yard", "[I", true)
  | 5 => ("DikeWatch$Night", "toLesser", "I", false)
  | _ => ("DikeWatch$Night", "oranges", "[I", true)
def tyX3 : Nat → FieldType := fun k => match k with
  | 0 => .object "DikeWatch$Told"
  | 1 => .int
  | 2 => .int
  | 3 => .array .int
  | 4 => .array .int
  | 5 => .int
  | _ => .array .int
abbrev wsX30 : List Cond := u_ws RX3 TX3 7
theorem nmX3 : ∀ a, a < 7 → ∀ b, b < 7 → a ≠ b → (TX3 a).2.1 ≠ (TX3 b).2.1 := by decide +kernel
theorem tyX3_ok : ∀ k, k < 7 → parseFieldDescriptor (TX3 k).2.2.1 = some (tyX3 k) := by decide +kernel
abbrev cX3_init : ByteArray := prog_5_method_1_code
def yX3_init : MethodName := ⟨RX3, "<init>", "(LDikeWatch$Told;)V"⟩
abbrev cX3_begin : ByteArray := prog_5_method_2_code
def yX3_begin : MethodName := ⟨RX3, "begin", "()V"⟩
abbrev cX3_copyFrom : ByteArray := prog_5_method_3_code
def yX3_copyFrom : MethodName := ⟨RX3, "copyFrom", "(LDikeWatch$Night;)V"⟩
abbrev cX3_passHours : ByteArray := prog_5_method_4_code
def yX3_passHours : MethodName := ⟨RX3, "passHours", "(I)V"⟩
abbrev cX3_growSeeps : ByteArray := prog_5_method_5_code
def yX3_growSeeps : MethodName := ⟨RX3, "growSeeps", "()V"⟩
abbrev cX3_walk : ByteArray := prog_5_method_6_code
def yX3_walk : MethodName := ⟨RX3, "walk", "(I)V"⟩
abbrev cX3_goesToLesser : ByteArray := prog_5_method_7_code
def yX3_goesToLesser : MethodName := ⟨RX3, "goesToLesser", "(I)Z"⟩
abbrev cX3_isFilled : ByteArray := prog_5_method_8_code
def yX3_isFilled : MethodName := ⟨RX3, "isFilled", "(I)Z"⟩
abbrev cX3_brokenSeeps : ByteArray := prog_5_method_9_code
def yX3_brokenSeeps : MethodName := ⟨RX3, "brokenSeeps", "()I"⟩
abbrev cX3_seepsAt : ByteArray := prog_5_method_10_code
def yX3_seepsAt : MethodName := ⟨RX3, "seepsAt", "(I)I"⟩
abbrev cX3_earOf : ByteArray := prog_5_method_11_code
def yX3_earOf : MethodName := ⟨RX3, "earOf", "(I)I"⟩
abbrev cX3_heardFrom : ByteArray := prog_5_method_12_code
def yX3_heardFrom : MethodName := ⟨RX3, "heardFrom", "(II)I"⟩
abbrev cX3_heardBy : ByteArray := prog_5_method_13_code
def yX3_heardBy : MethodName := ⟨RX3, "heardBy", "(I)I"⟩
abbrev cX3_toldBy : ByteArray := prog_5_method_14_code
def yX3_toldBy : MethodName := ⟨RX3, "toldBy", "(I)I"⟩
abbrev cX3_isNearer : ByteArray := prog_5_method_15_code
def yX3_isNearer : MethodName := ⟨RX3, "isNearer", "(III)Z"⟩
abbrev cX3_fillAt : ByteArray := prog_5_method_16_code
def yX3_fillAt : MethodName := ⟨RX3, "fillAt", "(I)I"⟩
def RX4 : String := "DikeWatch$Reader"
def TX4 : u_T := fun k => match k with
  | 0 => ("DikeWatch$Reader", "text", "LDikeWatch$Text;", true)
  | 1 => ("DikeWatch$Reader", "draft", "LDikeWatch$Told;", true)
  | 2 => ("DikeWatch$Reader", "sort", "I", false)
  | 3 => ("DikeWatch$Reader", "begin", "I", false)
  | 4 => ("DikeWatch$Reader", "end", "I", false)
  | _ => ("DikeWatch$Reader", "lines", "I", false)
def tyX4 : Nat → FieldType := fun k => match k with
  | 0 => .object "DikeWatch$Text"
  | 1 => .object "DikeWatch$Told"
  | 2 => .int
  | 3 => .int
  | 4 => .int
  | _ => .int
abbrev wsX40 : List Cond := u_ws RX4 TX4 6
theorem nmX4 : ∀ a, a < 6 → ∀ b, b < 6 → a ≠ b → (TX4 a).2.1 ≠ (TX4 b).2.1 := by decide +kernel
theorem tyX4_ok : ∀ k, k < 6 → parseFieldDescriptor (TX4 k).2.2.1 = some (tyX4 k) := by decide +kernel
abbrev cX4_init : ByteArray := prog_6_method_1_code
def yX4_init : MethodName := ⟨RX4, "<init>", "(LDikeWatch$Text;LDikeWatch$Told;)V"⟩
abbrev cX4_readToFault : ByteArray := prog_6_method_2_code
def yX4_readToFault : MethodName := ⟨RX4, "readToFault", "()I"⟩
abbrev cX4_readLine : ByteArray := prog_6_method_3_code
def yX4_readLine : MethodName := ⟨RX4, "readLine", "()Z"⟩
abbrev cX4_kindOfWord : ByteArray := prog_6_method_4_code
def yX4_kindOfWord : MethodName := ⟨RX4, "kindOfWord", "()I"⟩
abbrev cX4_readDike : ByteArray := prog_6_method_5_code
def yX4_readDike : MethodName := ⟨RX4, "readDike", "()Z"⟩
abbrev cX4_readTide : ByteArray := prog_6_method_6_code
def yX4_readTide : MethodName := ⟨RX4, "readTide", "()Z"⟩
abbrev cX4_readSeep : ByteArray := prog_6_method_7_code
def yX4_readSeep : MethodName := ⟨RX4, "readSeep", "()Z"⟩
abbrev cX4_readChild : ByteArray := prog_6_method_8_code
def yX4_readChild : MethodName := ⟨RX4, "readChild", "(I)Z"⟩
abbrev cX4_readNumber : ByteArray := prog_6_method_9_code
def yX4_readNumber : MethodName := ⟨RX4, "readNumber", "(II)I"⟩
abbrev cX4_isWord : ByteArray := prog_6_method_10_code
def yX4_isWord : MethodName := ⟨RX4, "isWord", "(Ljava/lang/String;)Z"⟩
abbrev cX4_toNextToken : ByteArray := prog_6_method_11_code
def yX4_toNextToken : MethodName := ⟨RX4, "toNextToken", "()V"⟩
abbrev cX4_sortOf : ByteArray := prog_6_method_12_code
def yX4_sortOf : MethodName := ⟨RX4, "sortOf", "(I)I"⟩
def RX5 : String := "DikeWatch$Storms"
def TX5 : u_T := fun k => match k with
  | 0 => ("DikeWatch$Storms", "ways", "[J", true)
  | 1 => ("DikeWatch$Storms", "above", "J", false)
  | _ => ("DikeWatch$Storms", "below", "J", false)
def tyX5 : Nat → FieldType := fun k => match k with
  | 0 => .array .long
  | 1 => .long
  | _ => .long
abbrev wsX50 : List Cond := u_ws RX5 TX5 3
theorem nmX5 : ∀ a, a < 3 → ∀ b, b < 3 → a ≠ b → (TX5 a).2.1 ≠ (TX5 b).2.1 := by decide +kernel
theorem tyX5_ok : ∀ k, k < 3 → parseFieldDescriptor (TX5 k).2.2.1 = some (tyX5 k) := by decide +kernel
abbrev cX5_init : ByteArray := prog_7_method_1_code
def yX5_init : MethodName := ⟨RX5, "<init>", "()V"⟩
abbrev cX5_reckon : ByteArray := prog_7_method_2_code
def yX5_reckon : MethodName := ⟨RX5, "reckon", "(III)V"⟩
abbrev cX5_countWays : ByteArray := prog_7_method_3_code
def yX5_countWays : MethodName := ⟨RX5, "countWays", "(II)V"⟩
abbrev cX5_cancel : ByteArray := prog_7_method_4_code
def yX5_cancel : MethodName := ⟨RX5, "cancel", "(I)V"⟩
def RX6 : String := "DikeWatch$Text"
def TX6 : u_T := fun k => match k with
  | 0 => ("DikeWatch$Text", "signs", "[B", true)
  | _ => ("DikeWatch$Text", "length", "I", false)
def tyX6 : Nat → FieldType := fun k => match k with
  | 0 => .array .byte
  | _ => .int
abbrev wsX60 : List Cond := u_ws RX6 TX6 2
theorem nmX6 : ∀ a, a < 2 → ∀ b, b < 2 → a ≠ b → (TX6 a).2.1 ≠ (TX6 b).2.1 := by decide +kernel
theorem tyX6_ok : ∀ k, k < 2 → parseFieldDescriptor (TX6 k).2.2.1 = some (tyX6 k) := by decide +kernel
abbrev cX6_init : ByteArray := prog_8_method_1_code
def yX6_init : MethodName := ⟨RX6, "<init>", "()V"⟩
abbrev cX6_hasRoomFor : ByteArray := prog_8_method_2_code
def yX6_hasRoomFor : MethodName := ⟨RX6, "hasRoomFor", "(I)Z"⟩
abbrev cX6_add : ByteArray := prog_8_method_3_code
def yX6_add : MethodName := ⟨RX6, "add", "(JI)V"⟩
abbrev cX6_signAt : ByteArray := prog_8_method_4_code
def yX6_signAt : MethodName := ⟨RX6, "signAt", "(I)I"⟩
def RX7 : String := "DikeWatch$Told"
def TX7 : u_T := fun k => match k with
  | 0 => ("DikeWatch$Told", "yards", "I", false)
  | 1 => ("DikeWatch$Told", "tides", "[I", true)
  | 2 => ("DikeWatch$Told", "seeps", "I", false)
  | 3 => ("DikeWatch$Told", "seepYard", "[I", true)
  | 4 => ("DikeWatch$Told", "seepSize", "[I", true)
  | 5 => ("DikeWatch$Told", "growth", "[I", true)
  | 6 => ("DikeWatch$Told", "level", "[I", true)
  | 7 => ("DikeWatch$Told", "children", "I", false)
  | 8 => ("DikeWatch$Told", "kind", "[I", true)
  | 9 => ("DikeWatch$Told", "childYard", "[I", true)
  | 10 => ("DikeWatch$Told", "pace", "[I", true)
  | _ => ("DikeWatch$Told", "ear", "[I", true)
def tyX7 : Nat → FieldType := fun k => match k with
  | 0 => .int
  | 1 => .array .int
  | 2 => .int
  | 3 => .array .int
  | 4 => .array .int
  | 5 => .array .int
  | 6 => .array .int
  | 7 => .int
  | 8 => .array .int
  | 9 => .array .int
  | 10 => .array .int
  | _ => .array .int
abbrev wsX70 : List Cond := u_ws RX7 TX7 12
theorem nmX7 : ∀ a, a < 12 → ∀ b, b < 12 → a ≠ b → (TX7 a).2.1 ≠ (TX7 b).2.1 := by decide +kernel
theorem tyX7_ok : ∀ k, k < 12 → parseFieldDescriptor (TX7 k).2.2.1 = some (tyX7 k) := by decide +kernel
abbrev cX7_init : ByteArray := prog_9_method_1_code
def yX7_init : MethodName := ⟨RX7, "<init>", "()V"⟩
abbrev cX7_copyFrom : ByteArray := prog_9_method_2_code
def yX7_copyFrom : MethodName := ⟨RX7, "copyFrom", "(LDikeWatch$Told;)V"⟩
abbrev cX7_startAnew : ByteArray := prog_9_method_3_code
def yX7_startAnew : MethodName := ⟨RX7, "startAnew", "(I)V"⟩
abbrev cX7_hasRoomForSeep : ByteArray := prog_9_method_4_code
def yX7_hasRoomForSeep : MethodName := ⟨RX7, "hasRoomForSeep", "()Z"⟩
abbrev cX7_addSeep : ByteArray := prog_9_method_5_code
def yX7_addSeep : MethodName := ⟨RX7, "addSeep", "(IIII)V"⟩
abbrev cX7_hasRoomForChild : ByteArray := prog_9_method_6_code
def yX7_hasRoomForChild : MethodName := ⟨RX7, "hasRoomForChild", "()Z"⟩
abbrev cX7_addChild : ByteArray := prog_9_method_7_code
def yX7_addChild : MethodName := ⟨RX7, "addChild", "(IIII)V"⟩
abbrev cX7_hasYard : ByteArray := prog_9_method_8_code
def yX7_hasYard : MethodName := ⟨RX7, "hasYard", "(I)Z"⟩
abbrev cX7_hasSeep : ByteArray := prog_9_method_9_code
def yX7_hasSeep : MethodName := ⟨RX7, "hasSeep", "(I)Z"⟩
abbrev cX7_hasChild : ByteArray := prog_9_method_10_code
def yX7_hasChild : MethodName := ⟨RX7, "hasChild", "(I)Z"⟩
abbrev cX7_hasSeeps : ByteArray := prog_9_method_11_code
def yX7_hasSeeps : MethodName := ⟨RX7, "hasSeeps", "(I)Z"⟩
abbrev cX7_hasChildren : ByteArray := prog_9_method_12_code
def yX7_hasChildren : MethodName := ⟨RX7, "hasChildren", "(I)Z"⟩
abbrev cX7_tideAt : ByteArray := prog_9_method_13_code
def yX7_tideAt : MethodName := ⟨RX7, "tideAt", "(I)I"⟩
abbrev cX7_grown : ByteArray := prog_9_method_14_code
def yX7_grown : MethodName := ⟨RX7, "grown", "(III)I"⟩
def RX8 : String := "DikeWatch"
def TX8 : u_T := fun k => match k with
  | 0 => ("DikeWatch", "text", "LDikeWatch$Text;", true)
  | 1 => ("DikeWatch", "told", "LDikeWatch$Told;", true)
  | 2 => ("DikeWatch", "draft", "LDikeWatch$Told;", true)
  | 3 => ("DikeWatch", "reader", "LDikeWatch$Reader;", true)
  | 4 => ("DikeWatch", "now", "LDikeWatch$Night;", true)
  | 5 => ("DikeWatch", "firstKept", "LDikeWatch$Night;", true)
  | 6 => ("DikeWatch", "secondKept", "LDikeWatch$Night;", true)
  | 7 => ("DikeWatch", "keptBits", "I", false)
  | 8 => ("DikeWatch", "foretold", "LDikeWatch$Foretold;", true)
  | 9 => ("DikeWatch", "men", "LDikeWatch$Men;", true)
  | 10 => ("DikeWatch", "stormOdds", "LDikeWatch$Storms;", true)
  | _ => ("DikeWatch", "clues", "LDikeWatch$Clues;", true)
def tyX8 : Nat → FieldType := fun k => match k with
  | 0 => .object "DikeWatch$Text"
  | 1 => .object "DikeWatch$Told"
  | 2 => .object "DikeWatch$Told"
  | 3 => .object "DikeWatch$Reader"
  | 4 => .object "DikeWatch$Night"
  | 5 => .object "DikeWatch$Night"
  | 6 => .object "DikeWatch$Night"
  | 7 => .int
  | 8 => .object "DikeWatch$Foretold"
  | 9 => .object "DikeWatch$Men"
  | 10 => .object "DikeWatch$Storms"
  | _ => .object "DikeWatch$Clues"
abbrev wsX80 : List Cond := u_ws RX8 TX8 12
theorem nmX8 : ∀ a, a < 12 → ∀ b, b < 12 → a ≠ b → (TX8 a).2.1 ≠ (TX8 b).2.1 := by decide +kernel
theorem tyX8_ok : ∀ k, k < 12 → parseFieldDescriptor (TX8 k).2.2.1 = some (tyX8 k) := by decide +kernel
abbrev cX8_init : ByteArray := prog_1_method_1_code
def yX8_init : MethodName := ⟨RX8, "<init>", "()V"⟩
abbrev cX8_write : ByteArray := prog_1_method_2_code
def yX8_write : MethodName := ⟨RX8, "write", "(JI)I"⟩
abbrev cX8_erase : ByteArray := prog_1_method_3_code
def yX8_erase : MethodName := ⟨RX8, "erase", "()I"⟩
abbrev cX8_fault : ByteArray := prog_1_method_4_code
def yX8_fault : MethodName := ⟨RX8, "fault", "()I"⟩
abbrev cX8_dike : ByteArray := prog_1_method_5_code
def yX8_dike : MethodName := ⟨RX8, "dike", "()I"⟩
abbrev cX8_tide : ByteArray := prog_1_method_6_code
def yX8_tide : MethodName := ⟨RX8, "tide", "(I)I"⟩
abbrev cX8_seep : ByteArray := prog_1_method_7_code
def yX8_seep : MethodName := ⟨RX8, "seep", "(II)I"⟩
abbrev cX8_child : ByteArray := prog_1_method_8_code
def yX8_child : MethodName := ⟨RX8, "child", "(II)I"⟩
abbrev cX8_as : ByteArray := prog_1_method_9_code
def yX8_as : MethodName := ⟨RX8, "as", "(II)I"⟩
abbrev cX8_go : ByteArray := prog_1_method_10_code
def yX8_go : MethodName := ⟨RX8, "go", "(I)I"⟩
abbrev cX8_fill : ByteArray := prog_1_method_11_code
def yX8_fill : MethodName := ⟨RX8, "fill", "(I)I"⟩
abbrev cX8_keep : ByteArray := prog_1_method_12_code
def yX8_keep : MethodName := ⟨RX8, "keep", "(I)I"⟩
abbrev cX8_back : ByteArray := prog_1_method_13_code
def yX8_back : MethodName := ⟨RX8, "back", "(I)I"⟩
abbrev cX8_later : ByteArray := prog_1_method_14_code
def yX8_later : MethodName := ⟨RX8, "later", "(III)I"⟩
abbrev cX8_breaks : ByteArray := prog_1_method_15_code
def yX8_breaks : MethodName := ⟨RX8, "breaks", "(I)I"⟩
abbrev cX8_missed : ByteArray := prog_1_method_16_code
def yX8_missed : MethodName := ⟨RX8, "missed", "(I)I"⟩
abbrev cX8_watch : ByteArray := prog_1_method_17_code
def yX8_watch : MethodName := ⟨RX8, "watch", "(I)I"⟩
abbrev cX8_order : ByteArray := prog_1_method_18_code
def yX8_order : MethodName := ⟨RX8, "order", "(III)I"⟩
abbrev cX8_storms : ByteArray := prog_1_method_19_code
def yX8_storms : MethodName := ⟨RX8, "storms", "(IIII)J"⟩
abbrev cX8_guard : ByteArray := prog_1_method_20_code
def yX8_guard : MethodName := ⟨RX8, "guard", "(II)I"⟩
abbrev cX8_seen : ByteArray := prog_1_method_21_code
def yX8_seen : MethodName := ⟨RX8, "seen", "(III)I"⟩
abbrev cX8_paid : ByteArray := prog_1_method_22_code
def yX8_paid : MethodName := ⟨RX8, "paid", "(II)I"⟩
abbrev cX8_forget : ByteArray := prog_1_method_23_code
def yX8_forget : MethodName := ⟨RX8, "forget", "()I"⟩
abbrev cX8_where : ByteArray := prog_1_method_24_code
def yX8_where : MethodName := ⟨RX8, "where", "()I"⟩
abbrev cX8_next : ByteArray := prog_1_method_25_code
def yX8_next : MethodName := ⟨RX8, "next", "(I)I"⟩
abbrev cX8_count : ByteArray := prog_1_method_26_code
def yX8_count : MethodName := ⟨RX8, "count", "(I)I"⟩
abbrev cX8_keptNight : ByteArray := prog_1_method_27_code
def yX8_keptNight : MethodName := ⟨RX8, "keptNight", "(I)LDikeWatch$Night;"⟩
abbrev cX8_isWithin : ByteArray := prog_1_method_28_code
def yX8_isWithin : MethodName := ⟨RX8, "isWithin", "(III)Z"⟩
abbrev cX8_hasBit : ByteArray := prog_1_method_29_code
def yX8_hasBit : MethodName := ⟨RX8, "hasBit", "(II)Z"⟩
abbrev cX8_isSetOf : ByteArray := prog_1_method_30_code
def yX8_isSetOf : MethodName := ⟨RX8, "isSetOf", "(II)Z"⟩
abbrev cX8_reaches : ByteArray := prog_1_method_31_code
def yX8_reaches : MethodName := ⟨RX8, "reaches", "(III)Z"⟩
abbrev cX8_isOfKind : ByteArray := prog_1_method_32_code
def yX8_isOfKind : MethodName := ⟨RX8, "isOfKind", "(II)Z"⟩
abbrev cX8_orangesFor : ByteArray := prog_1_method_33_code
def yX8_orangesFor : MethodName := ⟨RX8, "orangesFor", "(II)I"⟩
abbrev cX8_growthsToBreak : ByteArray := prog_1_method_34_code
def yX8_growthsToBreak : MethodName := ⟨RX8, "growthsToBreak", "(II)I"⟩
def RX9 : String := "DikeWatchModel"
def TX9 : u_T := fun k => match k with
  | 0 => ("DikeWatchModel", "row", "[I", true)
  | 1 => ("DikeWatchModel", "isKept", "[Z", true)
  | 2 => ("DikeWatchModel", "text", "[I", true)
  | 3 => ("DikeWatchModel", "length", "I", false)
  | 4 => ("DikeWatchModel", "read", "[I", true)
  | 5 => ("DikeWatchModel", "readMany", "I", false)
  | 6 => ("DikeWatchModel", "yards", "I", false)
  | 7 => ("DikeWatchModel", "tides", "[I", true)
  | 8 => ("DikeWatchModel", "seeps", "[I", true)
  | 9 => ("DikeWatchModel", "seepMany", "I", false)
  | 10 => ("DikeWatchModel", "kinds", "[I", true)
  | 11 => ("DikeWatchModel", "paces", "[I", true)
  | 12 => ("DikeWatchModel", "ears", "[I", true)
  | 13 => ("DikeWatchModel", "many", "I", false)
  | 14 => ("DikeWatchModel", "at", "I", false)
  | 15 => ("DikeWatchModel", "place", "I", false)
  | 16 => ("DikeWatchModel", "end", "I", false)
  | 17 => ("DikeWatchModel", "readYards", "I", false)
  | 18 => ("DikeWatchModel", "readSeeps", "I", false)
  | 19 => ("DikeWatchModel", "readChildren", "I", false)
  | 20 => ("DikeWatchModel", "hearers", "[I", true)
  | 21 => ("DikeWatchModel", "chosen", "[I", true)
  | 22 => ("DikeWatchModel", "chosenMany", "I", false)
  | 23 => ("DikeWatchModel", "dues", "[I", true)
  | 24 => ("DikeWatchModel", "sights", "[I", true)
  | _ => ("DikeWatchModel", "seenMany", "I", false)
def tyX9 : Nat → FieldType := fun k => match k with
  | 0 => .array .int
  | 1 => .array .boolean
  | 2 => .array .int
  | 3 => .int
  | 4 => .array .int
  | 5 => .int
  | 6 => .int
  | 7 => .array .int
  | 8 => .array .int
  | 9 => .int
  | 10 => .array .int
  | 11 => .array .int
  | 12 => .array .int
  | 13 => .int
  | 14 => .int
  | 15 => .int
  | 16 => .int
  | 17 => .int
  | 18 => .int
  | 19 => .int
  | 20 => .array .int
  | 21 => .array .int
  | 22 => .int
  | 23 => .array .int
  | 24 => .array .int
  | _ => .int
abbrev wsX90 : List Cond := u_ws RX9 TX9 26
theorem nmX9 : ∀ a, a < 26 → ∀ b, b < 26 → a ≠ b → (TX9 a).2.1 ≠ (TX9 b).2.1 := by decide +kernel
theorem tyX9_ok : ∀ k, k < 26 → parseFieldDescriptor (TX9 k).2.2.1 = some (tyX9 k) := by decide +kernel
abbrev cX9_init : ByteArray := prog_11_method_1_code
def yX9_init : MethodName := ⟨RX9, "<init>", "()V"⟩
abbrev cX9_in : ByteArray := prog_11_method_2_code
def yX9_in : MethodName := ⟨RX9, "in", "(JJJ)Z"⟩
abbrev cX9_has : ByteArray := prog_11_method_3_code
def yX9_has : MethodName := ⟨RX9, "has", "(II)Z"⟩
abbrev cX9_bits : ByteArray := prog_11_method_4_code
def yX9_bits : MethodName := ⟨RX9, "bits", "(I)I"⟩
abbrev cX9_far : ByteArray := prog_11_method_5_code
def yX9_far : MethodName := ⟨RX9, "far", "(II)I"⟩
abbrev cX9_copy : ByteArray := prog_11_method_6_code
def yX9_copy : MethodName := ⟨RX9, "copy", "(II)V"⟩
abbrev cX9_write : ByteArray := prog_11_method_7_code
def yX9_write : MethodName := ⟨RX9, "write", "(JI)I"⟩
abbrev cX9_erase : ByteArray := prog_11_method_8_code
def yX9_erase : MethodName := ⟨RX9, "erase", "()I"⟩
abbrev cX9_sort : ByteArray := prog_11_method_9_code
def yX9_sort : MethodName := ⟨RX9, "sort", "(I)I"⟩
abbrev cX9_token : ByteArray := prog_11_method_10_code
def yX9_token : MethodName := ⟨RX9, "token", "()V"⟩
abbrev cX9_isWord : ByteArray := prog_11_method_11_code
def yX9_isWord : MethodName := ⟨RX9, "isWord", "(II)Z"⟩
abbrev cX9_childWord : ByteArray := prog_11_method_12_code
def yX9_childWord : MethodName := ⟨RX9, "childWord", "()I"⟩
abbrev cX9_wordOf : ByteArray := prog_11_method_13_code
def yX9_wordOf : MethodName := ⟨RX9, "wordOf", "()I"⟩
abbrev cX9_reads : ByteArray := prog_11_method_14_code
def yX9_reads : MethodName := ⟨RX9, "reads", "(III)Z"⟩
abbrev cX9_readsRest : ByteArray := prog_11_method_15_code
def yX9_readsRest : MethodName := ⟨RX9, "readsRest", "(I)Z"⟩
abbrev cX9_isChildWord : ByteArray := prog_11_method_16_code
def yX9_isChildWord : MethodName := ⟨RX9, "isChildWord", "(I)Z"⟩
abbrev cX9_readsLine : ByteArray := prog_11_method_17_code
def yX9_readsLine : MethodName := ⟨RX9, "readsLine", "()Z"⟩
abbrev cX9_fault : ByteArray := prog_11_method_18_code
def yX9_fault : MethodName := ⟨RX9, "fault", "()I"⟩
abbrev cX9_clear : ByteArray := prog_11_method_19_code
def yX9_clear : MethodName := ⟨RX9, "clear", "(I)V"⟩
abbrev cX9_tell : ByteArray := prog_11_method_20_code
def yX9_tell : MethodName := ⟨RX9, "tell", "(I)V"⟩
abbrev cX9_dike : ByteArray := prog_11_method_21_code
def yX9_dike : MethodName := ⟨RX9, "dike", "()I"⟩
abbrev cX9_isYard : ByteArray := prog_11_method_22_code
def yX9_isYard : MethodName := ⟨RX9, "isYard", "(I)Z"⟩
abbrev cX9_isSeep : ByteArray := prog_11_method_23_code
def yX9_isSeep : MethodName := ⟨RX9, "isSeep", "(I)Z"⟩
abbrev cX9_isChild : ByteArray := prog_11_method_24_code
def yX9_isChild : MethodName := ⟨RX9, "isChild", "(I)Z"⟩
abbrev cX9_tide : ByteArray := prog_11_method_25_code
def yX9_tide : MethodName := ⟨RX9, "tide", "(I)I"⟩
abbrev cX9_seep : ByteArray := prog_11_method_26_code
def yX9_seep : MethodName := ⟨RX9, "seep", "(II)I"⟩
abbrev cX9_earOf : ByteArray := prog_11_method_27_code
def yX9_earOf : MethodName := ⟨RX9, "earOf", "(II)I"⟩
abbrev cX9_heardAt : ByteArray := prog_11_method_28_code
def yX9_heardAt : MethodName := ⟨RX9, "heardAt", "(III)I"⟩
abbrev cX9_hears : ByteArray := prog_11_method_29_code
def yX9_hears : MethodName := ⟨RX9, "hears", "(II)I"⟩
abbrev cX9_tells : ByteArray := prog_11_method_30_code
def yX9_tells : MethodName := ⟨RX9, "tells", "(I)I"⟩
abbrev cX9_child : ByteArray := prog_11_method_31_code
def yX9_child : MethodName := ⟨RX9, "child", "(II)I"⟩
abbrev cX9_as : ByteArray := prog_11_method_32_code
def yX9_as : MethodName := ⟨RX9, "as", "(II)I"⟩
abbrev cX9_walk : ByteArray := prog_11_method_33_code
def yX9_walk : MethodName := ⟨RX9, "walk", "(II)V"⟩
abbrev cX9_hour : ByteArray := prog_11_method_34_code
def yX9_hour : MethodName := ⟨RX9, "hour", "(I)V"⟩
abbrev cX9_go : ByteArray := prog_11_method_35_code
def yX9_go : MethodName := ⟨RX9, "go", "(I)I"⟩
abbrev cX9_fill : ByteArray := prog_11_method_36_code
def yX9_fill : MethodName := ⟨RX9, "fill", "(I)I"⟩
abbrev cX9_keep : ByteArray := prog_11_method_37_code
def yX9_keep : MethodName := ⟨RX9, "keep", "(I)I"⟩
abbrev cX9_back : ByteArray := prog_11_method_38_code
def yX9_back : MethodName := ⟨RX9, "back", "(I)I"⟩
abbrev cX9_later : ByteArray := prog_11_method_39_code
def yX9_later : MethodName := ⟨RX9, "later", "(III)I"⟩
abbrev cX9_breaksIn : ByteArray := prog_11_method_40_code
def yX9_breaksIn : MethodName := ⟨RX9, "breaksIn", "(I)I"⟩
abbrev cX9_breaks : ByteArray := prog_11_method_41_code
def yX9_breaks : MethodName := ⟨RX9, "breaks", "(I)I"⟩
abbrev cX9_heardBy : ByteArray := prog_11_method_42_code
def yX9_heardBy : MethodName := ⟨RX9, "heardBy", "(I)I"⟩
abbrev cX9_layHearers : ByteArray := prog_11_method_43_code
def yX9_layHearers : MethodName := ⟨RX9, "layHearers", "()V"⟩
abbrev cX9_missedBy : ByteArray := prog_11_method_44_code
def yX9_missedBy : MethodName := ⟨RX9, "missedBy", "(I)I"⟩
abbrev cX9_missed : ByteArray := prog_11_method_45_code
def yX9_missed : MethodName := ⟨RX9, "missed", "(I)I"⟩
abbrev cX9_watch : ByteArray := prog_11_method_46_code
def yX9_watch : MethodName := ⟨RX9, "watch", "(I)I"⟩
abbrev cX9_rowOf : ByteArray := prog_11_method_47_code
def yX9_rowOf : MethodName := ⟨RX9, "rowOf", "(II)I"⟩
abbrev cX9_lostBy : ByteArray := prog_11_method_48_code
def yX9_lostBy : MethodName := ⟨RX9, "lostBy", "(II)I"⟩
abbrev cX9_order : ByteArray := prog_11_method_49_code
def yX9_order : MethodName := ⟨RX9, "order", "(III)I"⟩
abbrev cX9_power : ByteArray := prog_11_method_50_code
def yX9_power : MethodName := ⟨RX9, "power", "(JI)J"⟩
abbrev cX9_growths : ByteArray := prog_11_method_51_code
def yX9_growths : MethodName := ⟨RX9, "growths", "(I)I"⟩
abbrev cX9_storms : ByteArray := prog_11_method_52_code
def yX9_storms : MethodName := ⟨RX9, "storms", "(IIII)J"⟩
abbrev cX9_guard : ByteArray := prog_11_method_53_code
def yX9_guard : MethodName := ⟨RX9, "guard", "(II)I"⟩
abbrev cX9_see : ByteArray := prog_11_method_54_code
def yX9_see : MethodName := ⟨RX9, "see", "(III)I"⟩
abbrev cX9_seen : ByteArray := prog_11_method_55_code
def yX9_seen : MethodName := ⟨RX9, "seen", "(III)I"⟩
abbrev cX9_paid : ByteArray := prog_11_method_56_code
def yX9_paid : MethodName := ⟨RX9, "paid", "(II)I"⟩
abbrev cX9_forget : ByteArray := prog_11_method_57_code
def yX9_forget : MethodName := ⟨RX9, "forget", "()I"⟩
abbrev cX9_canBe : ByteArray := prog_11_method_58_code
def yX9_canBe : MethodName := ⟨RX9, "canBe", "(I)Z"⟩
abbrev cX9_placesOf : ByteArray := prog_11_method_59_code
def yX9_placesOf : MethodName := ⟨RX9, "placesOf", "()I"⟩
abbrev cX9_where : ByteArray := prog_11_method_60_code
def yX9_where : MethodName := ⟨RX9, "where", "()I"⟩
abbrev cX9_next : ByteArray := prog_11_method_61_code
def yX9_next : MethodName := ⟨RX9, "next", "(I)I"⟩
abbrev cX9_count : ByteArray := prog_11_method_62_code
def yX9_count : MethodName := ⟨RX9, "count", "(I)I"⟩
def RJ6 : String := "java/lang/Integer"
def TJ6 : u_T := fun k => match k with
  | _ => ("", "", "", false)
def tyJ6 : Nat → FieldType := fun k => match k with
  | _ => .int
abbrev cJ6_compare_7cf53 : ByteArray := prog_12_method_40_code
def yJ6_compare_7cf53 : MethodName := ⟨RJ6, "compare", "(II)I"⟩
abbrev cJ6_bitCount_0f7a4 : ByteArray := prog_12_method_49_code
def yJ6_bitCount_0f7a4 : MethodName := ⟨RJ6, "bitCount", "(I)I"⟩
def RJ9 : String := "java/lang/Math"
def TJ9 : u_T := fun k => match k with
  | _ => ("", "", "", false)
def tyJ9 : Nat → FieldType := fun k => match k with
  | _ => .int
abbrev cJ9_floorMod_7cf53 : ByteArray := prog_13_method_50_code
def yJ9_floorMod_7cf53 : MethodName := ⟨RJ9, "floorMod", "(II)I"⟩
abbrev cJ9_abs_0f7a4 : ByteArray := prog_13_method_59_code
def yJ9_abs_0f7a4 : MethodName := ⟨RJ9, "abs", "(I)I"⟩
abbrev cJ9_max_7cf53 : ByteArray := prog_13_method_65_code
def yJ9_max_7cf53 : MethodName := ⟨RJ9, "max", "(II)I"⟩
abbrev cJ9_min_7cf53 : ByteArray := prog_13_method_69_code
def yJ9_min_7cf53 : MethodName := ⟨RJ9, "min", "(II)I"⟩
def RJ0 : String := "java/lang/String"
def TJ0 : u_T := fun k => match k with
  | _ => ("", "", "", false)
def tyJ0 : Nat → FieldType := fun k => match k with
  | _ => .int
abbrev cJ0_length_8abf5 : ByteArray := prog_14_method_54_code
def yJ0_length_8abf5 : MethodName := ⟨RJ0, "length", "()I"⟩
abbrev cJ0_charAt_5068e : ByteArray := prog_14_method_56_code
def yJ0_charAt_5068e : MethodName := ⟨RJ0, "charAt", "(I)C"⟩
abbrev cJ0_coder_7d493 : ByteArray := prog_14_method_152_code
def yJ0_coder_7d493 : MethodName := ⟨RJ0, "coder", "()B"⟩
abbrev cJ0_isLatin1_aae02 : ByteArray := prog_14_method_154_code
def yJ0_isLatin1_aae02 : MethodName := ⟨RJ0, "isLatin1", "()Z"⟩
abbrev cJ0_checkIndex_df160 : ByteArray := prog_14_method_155_code
def yJ0_checkIndex_df160 : MethodName := ⟨RJ0, "checkIndex", "(II)V"⟩
def RJ1 : String := "java/lang/StringLatin1"
def TJ1 : u_T := fun k => match k with
  | _ => ("", "", "", false)
def tyJ1 : Nat → FieldType := fun k => match k with
  | _ => .int
abbrev cJ1_charAt_3b067 : ByteArray := prog_15_method_2_code
def yJ1_charAt_3b067 : MethodName := ⟨RJ1, "charAt", "([BI)C"⟩
def RJ2 : String := "java/lang/StringUTF16"
def TJ2 : u_T := fun k => match k with
  | _ => ("", "", "", false)
def tyJ2 : Nat → FieldType := fun k => match k with
  | _ => .int
abbrev cJ2_getChar_3b067 : ByteArray := prog_16_method_5_code
def yJ2_getChar_3b067 : MethodName := ⟨RJ2, "getChar", "([BI)C"⟩
abbrev cJ2_length_9d52b : ByteArray := prog_16_method_6_code
def yJ2_length_9d52b : MethodName := ⟨RJ2, "length", "([B)I"⟩
abbrev cJ2_charAt_3b067 : ByteArray := prog_16_method_83_code
def yJ2_charAt_3b067 : MethodName := ⟨RJ2, "charAt", "([BI)C"⟩
abbrev cJ2_checkIndex_2214a : ByteArray := prog_16_method_91_code
def yJ2_checkIndex_2214a : MethodName := ⟨RJ2, "checkIndex", "(I[B)V"⟩
def RJ10 : String := "java/lang/System"
def TJ10 : u_T := fun k => match k with
  | _ => ("", "", "", false)
def tyJ10 : Nat → FieldType := fun k => match k with
  | _ => .int
def RJ7 : String := "java/util/Arrays"
def TJ7 : u_T := fun k => match k with
  | _ => ("", "", "", false)
def tyJ7 : Nat → FieldType := fun k => match k with
  | _ => .int
abbrev cJ7_fill_d0a16 : ByteArray := prog_18_method_101_code
def yJ7_fill_d0a16 : MethodName := ⟨RJ7, "fill", "([JJ)V"⟩
abbrev cJ7_fill_53178 : ByteArray := prog_18_method_103_code
def yJ7_fill_53178 : MethodName := ⟨RJ7, "fill", "([II)V"⟩
def RJ3 : String := "jdk/internal/util/Preconditions"
def TJ3 : u_T := fun k => match k with
  | _ => ("", "", "", false)
def tyJ3 : Nat → FieldType := fun k => match k with
  | _ => .int
abbrev cJ3_checkIndex_8e157 : ByteArray := prog_19_method_11_code
def yJ3_checkIndex_8e157 : MethodName := ⟨RJ3, "checkIndex", "(IILjava/util/function/BiFunction;)I"⟩
def RL : String := "DikeWatchLaw"
abbrev cL_law : ByteArray := code
def yL_law : MethodName := ⟨RL, "law", "([I)Z"⟩
abbrev vwCl : List vw_C := [(RX0, TX0, 3), (RX1, TX1, 5), (RX2, TX2, 7), (RX3, TX3, 7), (RX4, TX4, 6), (RX5, TX5, 3), (RX6, TX6, 2), (RX7, TX7, 12), (RX8, TX8, 12), (RX9, TX9, 26)]
end
section
theorem q1_0 : (Cond.initialized "DikeWatchLaw") ∈ W0 := wm1 0 rfl rfl
theorem q1_1 : (Cond.initialized "DikeWatch") ∈ W0 := wm1 1 rfl rfl
theorem q1_2 : (Cond.initialized "DikeWatch$Text") ∈ W0 := wm1 2 rfl rfl
theorem q1_3 : (Cond.initialized "DikeWatch$Told") ∈ W0 := wm1 3 rfl rfl
theorem q1_4 : (Cond.initialized "DikeWatch$Night") ∈ W0 := wm1 4 rfl rfl
theorem q1_5 : (Cond.initialized "DikeWatch$Foretold") ∈ W0 := wm1 5 rfl rfl
theorem q1_6 : (Cond.initialized "DikeWatch$Reader") ∈ W0 := wm1 6 rfl rfl
theorem q1_7 : (Cond.initialized "DikeWatch$Men") ∈ W0 := wm1 7 rfl rfl
theorem q1_8 : (Cond.initialized "DikeWatch$Storms") ∈ W0 := wm1 8 rfl rfl
theorem q1_9 : (Cond.initialized "DikeWatch$Clues") ∈ W0 := wm1 9 rfl rfl
theorem q1_10 : (Cond.initialized "DikeWatchModel") ∈ W0 := wm1 10 rfl rfl
theorem q1_11 : (Cond.initialized "java/lang/System") ∈ W0 := wm1 11 rfl rfl
theorem q1_12 : (Cond.initialized "java/lang/String") ∈ W0 := wm1 12 rfl rfl
theorem q1_13 : (Cond.initialized "java/lang/StringLatin1") ∈ W0 := wm1 13 rfl rfl
theorem q1_14 : (Cond.initialized "jdk/internal/util/Preconditions") ∈ W0 := wm1 14 rfl rfl
theorem q1_15 : (Cond.initialized "java/lang/StringUTF16") ∈ W0 := wm1 15 rfl rfl
theorem q1_16 : (Cond.initialized "java/util/Arrays") ∈ W0 := wm1 16 rfl rfl
theorem q1_17 : (Cond.initialized "java/lang/Math") ∈ W0 := wm1 17 rfl rfl
theorem q1_18 : (Cond.initialized "java/lang/Integer") ∈ W0 := wm1 18 rfl rfl
theorem q1_19 : (Cond.classLink "DikeWatchLaw" (7 : Nat) "DikeWatch") ∈ W0 := wm1 19 rfl rfl
theorem q1_20 : (Cond.instantiable "DikeWatch" (12 : Nat)) ∈ W0 := wm1 20 rfl rfl
theorem q1_21 : (Cond.methodLink "DikeWatchLaw" (9 : Nat) ({ cls := "DikeWatch", name := "<init>", desc := "()V" } : MethodName)) ∈ W0 := wm1 21 rfl rfl
theorem q1_22 : (Cond.instanceMethod ({ cls := "DikeWatch", name := "<init>", desc := "()V" } : MethodName)) ∈ W0 := wm1 22 rfl rfl
theorem q1_23 : (Cond.code ({ cls := "DikeWatch", name := "<init>", desc := "()V" } : MethodName) prog_1_method_1_code (6 : Nat) (Option.none : Option ClassFile.FieldType)) ∈ W0 := wm1 23 rfl rfl
theorem q1_24 : (Cond.methodLink "DikeWatch" (1 : Nat) ({ cls := "java/lang/Object", name := "<init>", desc := "()V" } : MethodName)) ∈ W0 := wm1 24 rfl rfl
theorem q1_25 : (Cond.instanceMethod ({ cls := "java/lang/Object", name := "<init>", desc := "()V" } : MethodName)) ∈ W0 := wm1 25 rfl rfl
theorem q1_26 : (Cond.code ({ cls := "java/lang/Object", name := "<init>", desc := "()V" } : MethodName) object_method_1_code (1 : Nat) (Option.none : Option ClassFile.FieldType)) ∈ W0 := wm1 26 rfl rfl
theorem q1_27 : (Cond.classLink "DikeWatch" (7 : Nat) "DikeWatch$Text") ∈ W0 := wm1 27 rfl rfl
theorem q1_28 : (Cond.instantiable "DikeWatch$Text" (2 : Nat)) ∈ W0 := wm1 28 rfl rfl
theorem q1_30 : (Cond.instanceMethod ({ cls := "DikeWatch$Text", name := "<init>", desc := "()V" } : MethodName)) ∈ W0 := wm1 30 rfl rfl
theorem q1_31 : (Cond.code ({ cls := "DikeWatch$Text", name := "<init>", desc := "()V" } : MethodName) prog_8_method_1_code (1 : Nat) (Option.none : Option ClassFile.FieldType)) ∈ W0 := wm1 31 rfl rfl
theorem q1_32 : (Cond.methodLink "DikeWatch$Text" (3 : Nat) ({ cls := "java/lang/Object", name := "<init>", desc := "()V" } : MethodName)) ∈ W0 := wm1 32 rfl rfl
theorem q1_33 : (Cond.fieldLink "DikeWatch$Text" (9 : Nat) "DikeWatch$Text" "signs" "[B") ∈ W0 := wm1 33 rfl rfl
theorem q1_34 : (Cond.fieldLink "DikeWatch$Text" (15 : Nat) "DikeWatch$Text" "length" "I") ∈ W0 := wm1 34 rfl rfl
theorem q1_35 : (Cond.fieldLink "DikeWatch" (98 : Nat) "DikeWatch$Text" "length" "I") ∈ W0 := wm1 35 rfl rfl
theorem q1_36 : (Cond.fieldLink "DikeWatch$Reader" (133 : Nat) "DikeWatch$Text" "length" "I") ∈ W0 := wm1 36 rfl rfl
theorem q1_42 : (Cond.arrayClass ClassFile.FieldType.byte) ∈ W0 := wm1 42 rfl rfl
theorem q1_43 : (Cond.classLink "DikeWatch" (10 : Nat) "DikeWatch$Told") ∈ W0 := wm1 43 rfl rfl
theorem q1_44 : (Cond.instantiable "DikeWatch$Told" (12 : Nat)) ∈ W0 := wm1 44 rfl rfl
theorem q1_46 : (Cond.instanceMethod ({ cls := "DikeWatch$Told", name := "<init>", desc := "()V" } : MethodName)) ∈ W0 := wm1 46 rfl rfl
theorem q1_47 : (Cond.code ({ cls := "DikeWatch$Told", name := "<init>", desc := "()V" } : MethodName) prog_9_method_1_code (1 : Nat) (Option.none : Option ClassFile.FieldType)) ∈ W0 := wm1 47 rfl rfl
theorem q1_48 : (Cond.methodLink "DikeWatch$Told" (3 : Nat) ({ cls := "java/lang/Object", name := "<init>", desc := "()V" } : MethodName)) ∈ W0 := wm1 48 rfl rfl
theorem q1_49 : (Cond.fieldLink "DikeWatch$Told" (9 : Nat) "DikeWatch$Told" "yards" "I") ∈ W0 := wm1 49 rfl rfl
theorem q1_50 : (Cond.fieldLink "DikeWatch" (111 : Nat) "DikeWatch$Told" "yards" "I") ∈ W0 := wm1 50 rfl rfl
theorem q1_51 : (Cond.fieldLink "DikeWatch$Night" (82 : Nat) "DikeWatch$Told" "yards" "I") ∈ W0 := wm1 51 rfl rfl
theorem q1_52 : (Cond.fieldLink "DikeWatch$Reader" (107 : Nat) "DikeWatch$Told" "yards" "I") ∈ W0 := wm1 52 rfl rfl
theorem q1_53 : (Cond.fieldLink "DikeWatch$Told" (15 : Nat) "DikeWatch$Told" "tides" "[I") ∈ W0 := wm1 53 rfl rfl
theorem q1_54 : (Cond.fieldLink "DikeWatch$Reader" (100 : Nat) "DikeWatch$Told" "tides" "[I") ∈ W0 := wm1 54 rfl rfl
theorem q1_55 : (Cond.fieldLink "DikeWatch$Told" (19 : Nat) "DikeWatch$Told" "seeps" "I") ∈ W0 := wm1 55 rfl rfl
theorem q1_56 : (Cond.fieldLink "DikeWatch$Reader" (66 : Nat) "DikeWatch$Told" "seeps" "I") ∈ W0 := wm1 56 rfl rfl
theorem q1_57 : (Cond.fieldLink "DikeWatch$Foretold" (52 : Nat) "DikeWatch$Told" "seeps" "I") ∈ W0 := wm1 57 rfl rfl
theorem q1_58 : (Cond.fieldLink "DikeWatch$Men" (54 : Nat) "DikeWatch$Told" "seeps" "I") ∈ W0 := wm1 58 rfl rfl
theorem q1_59 : (Cond.fieldLink "DikeWatch$Night" (65 : Nat) "DikeWatch$Told" "seeps" "I") ∈ W0 := wm1 59 rfl rfl
theorem q1_60 : (Cond.fieldLink "DikeWatch" (273 : Nat) "DikeWatch$Told" "seeps" "I") ∈ W0 := wm1 60 rfl rfl
theorem q1_61 : (Cond.fieldLink "DikeWatch$Told" (22 : Nat) "DikeWatch$Told" "seepYard" "[I") ∈ W0 := wm1 61 rfl rfl
theorem q1_62 : (Cond.fieldLink "DikeWatch$Men" (68 : Nat) "DikeWatch$Told" "seepYard" "[I") ∈ W0 := wm1 62 rfl rfl
theorem q1_63 : (Cond.fieldLink "DikeWatch" (127 : Nat) "DikeWatch$Told" "seepYard" "[I") ∈ W0 := wm1 63 rfl rfl
theorem q1_64 : (Cond.fieldLink "DikeWatch$Night" (89 : Nat) "DikeWatch$Told" "seepYard" "[I") ∈ W0 := wm1 64 rfl rfl
theorem q1_65 : (Cond.fieldLink "DikeWatch$Told" (25 : Nat) "DikeWatch$Told" "seepSize" "[I") ∈ W0 := wm1 65 rfl rfl
theorem q1_66 : (Cond.fieldLink "DikeWatch$Night" (35 : Nat) "DikeWatch$Told" "seepSize" "[I") ∈ W0 := wm1 66 rfl rfl
theorem q1_67 : (Cond.fieldLink "DikeWatch$Told" (28 : Nat) "DikeWatch$Told" "growth" "[I") ∈ W0 := wm1 67 rfl rfl
theorem q1_68 : (Cond.fieldLink "DikeWatch" (134 : Nat) "DikeWatch$Told" "growth" "[I") ∈ W0 := wm1 68 rfl rfl
theorem q1_69 : (Cond.fieldLink "DikeWatch$Told" (31 : Nat) "DikeWatch$Told" "level" "[I") ∈ W0 := wm1 69 rfl rfl
theorem q1_70 : (Cond.fieldLink "DikeWatch" (137 : Nat) "DikeWatch$Told" "level" "[I") ∈ W0 := wm1 70 rfl rfl
theorem q1_71 : (Cond.fieldLink "DikeWatch$Told" (34 : Nat) "DikeWatch$Told" "children" "I") ∈ W0 := wm1 71 rfl rfl
theorem q1_72 : (Cond.fieldLink "DikeWatch$Reader" (73 : Nat) "DikeWatch$Told" "children" "I") ∈ W0 := wm1 72 rfl rfl
theorem q1_73 : (Cond.fieldLink "DikeWatch$Night" (58 : Nat) "DikeWatch$Told" "children" "I") ∈ W0 := wm1 73 rfl rfl
theorem q1_74 : (Cond.fieldLink "DikeWatch$Foretold" (89 : Nat) "DikeWatch$Told" "children" "I") ∈ W0 := wm1 74 rfl rfl
theorem q1_75 : (Cond.fieldLink "DikeWatch" (276 : Nat) "DikeWatch$Told" "children" "I") ∈ W0 := wm1 75 rfl rfl
theorem q1_76 : (Cond.fieldLink "DikeWatch$Told" (37 : Nat) "DikeWatch$Told" "kind" "[I") ∈ W0 := wm1 76 rfl rfl
theorem q1_77 : (Cond.fieldLink "DikeWatch" (146 : Nat) "DikeWatch$Told" "kind" "[I") ∈ W0 := wm1 77 rfl rfl
theorem q1_78 : (Cond.fieldLink "DikeWatch$Night" (95 : Nat) "DikeWatch$Told" "kind" "[I") ∈ W0 := wm1 78 rfl rfl
theorem q1_79 : (Cond.fieldLink "DikeWatch$Told" (40 : Nat) "DikeWatch$Told" "childYard" "[I") ∈ W0 := wm1 79 rfl rfl
theorem q1_80 : (Cond.fieldLink "DikeWatch$Night" (46 : Nat) "DikeWatch$Told" "childYard" "[I") ∈ W0 := wm1 80 rfl rfl
theorem q1_81 : (Cond.fieldLink "DikeWatch$Told" (43 : Nat) "DikeWatch$Told" "pace" "[I") ∈ W0 := wm1 81 rfl rfl
theorem q1_82 : (Cond.fieldLink "DikeWatch$Night" (76 : Nat) "DikeWatch$Told" "pace" "[I") ∈ W0 := wm1 82 rfl rfl
theorem q1_83 : (Cond.fieldLink "DikeWatch" (152 : Nat) "DikeWatch$Told" "pace" "[I") ∈ W0 := wm1 83 rfl rfl
theorem q1_84 : (Cond.fieldLink "DikeWatch$Told" (46 : Nat) "DikeWatch$Told" "ear" "[I") ∈ W0 := wm1 84 rfl rfl
theorem q1_85 : (Cond.fieldLink "DikeWatch$Night" (92 : Nat) "DikeWatch$Told" "ear" "[I") ∈ W0 := wm1 85 rfl rfl
theorem q1_111 : (Cond.arrayClass ClassFile.FieldType.int) ∈ W0 := wm1 111 rfl rfl
theorem q1_112 : (Cond.classLink "DikeWatch" (13 : Nat) "DikeWatch$Night") ∈ W0 := wm1 112 rfl rfl
theorem q1_113 : (Cond.instantiable "DikeWatch$Night" (7 : Nat)) ∈ W0 := wm1 113 rfl rfl
theorem q1_114 : (Cond.methodLink "DikeWatch" (15 : Nat) ({ cls := "DikeWatch$Night", name := "<init>", desc := "(LDikeWatch$Told;)V" } : MethodName)) ∈ W0 := wm1 114 rfl rfl
theorem q1_115 : (Cond.instanceMethod ({ cls := "DikeWatch$Night", name := "<init>", desc := "(LDikeWatch$Told;)V" } : MethodName)) ∈ W0 := wm1 115 rfl rfl
theorem q1_116 : (Cond.code ({ cls := "DikeWatch$Night", name := "<init>", desc := "(LDikeWatch$Told;)V" } : MethodName) prog_5_method_1_code (2 : Nat) (Option.none : Option ClassFile.FieldType)) ∈ W0 := wm1 116 rfl rfl
theorem q1_117 : (Cond.methodLink "DikeWatch$Night" (3 : Nat) ({ cls := "java/lang/Object", name := "<init>", desc := "()V" } : MethodName)) ∈ W0 := wm1 117 rfl rfl
theorem q1_118 : (Cond.fieldLink "DikeWatch$Night" (31 : Nat) "DikeWatch$Night" "told" "LDikeWatch$Told;") ∈ W0 := wm1 118 rfl rfl
theorem q1_119 : (Cond.fieldLink "DikeWatch$Night" (9 : Nat) "DikeWatch$Night" "hours" "I") ∈ W0 := wm1 119 rfl rfl
theorem q1_120 : (Cond.fieldLink "DikeWatch$Foretold" (42 : Nat) "DikeWatch$Night" "hours" "I") ∈ W0 := wm1 120 rfl rfl
theorem q1_121 : (Cond.fieldLink "DikeWatch" (174 : Nat) "DikeWatch$Night" "hours" "I") ∈ W0 := wm1 121 rfl rfl
theorem q1_122 : (Cond.fieldLink "DikeWatch$Night" (15 : Nat) "DikeWatch$Night" "filled" "I") ∈ W0 := wm1 122 rfl rfl
theorem q1_123 : (Cond.fieldLink "DikeWatch" (219 : Nat) "DikeWatch$Night" "filled" "I") ∈ W0 := wm1 123 rfl rfl
theorem q1_124 : (Cond.fieldLink "DikeWatch$Night" (18 : Nat) "DikeWatch$Night" "size" "[I") ∈ W0 := wm1 124 rfl rfl
theorem q1_125 : (Cond.fieldLink "DikeWatch$Foretold" (39 : Nat) "DikeWatch$Night" "size" "[I") ∈ W0 := wm1 125 rfl rfl
theorem q1_126 : (Cond.fieldLink "DikeWatch" (131 : Nat) "DikeWatch$Night" "size" "[I") ∈ W0 := wm1 126 rfl rfl
theorem q1_127 : (Cond.fieldLink "DikeWatch$Night" (22 : Nat) "DikeWatch$Night" "yard" "[I") ∈ W0 := wm1 127 rfl rfl
theorem q1_128 : (Cond.fieldLink "DikeWatch" (149 : Nat) "DikeWatch$Night" "yard" "[I") ∈ W0 := wm1 128 rfl rfl
theorem q1_129 : (Cond.fieldLink "DikeWatch$Night" (25 : Nat) "DikeWatch$Night" "toLesser" "I") ∈ W0 := wm1 129 rfl rfl
theorem q1_130 : (Cond.fieldLink "DikeWatch$Night" (28 : Nat) "DikeWatch$Night" "oranges" "[I") ∈ W0 := wm1 130 rfl rfl
theorem q1_131 : (Cond.fieldLink "DikeWatch" (161 : Nat) "DikeWatch$Night" "oranges" "[I") ∈ W0 := wm1 131 rfl rfl
theorem q1_147 : (Cond.classLink "DikeWatch" (18 : Nat) "DikeWatch$Foretold") ∈ W0 := wm1 147 rfl rfl
theorem q1_148 : (Cond.instantiable "DikeWatch$Foretold" (5 : Nat)) ∈ W0 := wm1 148 rfl rfl
theorem q1_149 : (Cond.methodLink "DikeWatch" (20 : Nat) ({ cls := "DikeWatch$Foretold", name := "<init>", desc := "(LDikeWatch$Told;LDikeWatch$Night;LDikeWatch$Night;)V" } : MethodName)) ∈ W0 := wm1 149 rfl rfl
theorem q1_150 : (Cond.instanceMethod ({ cls := "DikeWatch$Foretold", name := "<init>", desc := "(LDikeWatch$Told;LDikeWatch$Night;LDikeWatch$Night;)V" } : MethodName)) ∈ W0 := wm1 150 rfl rfl
theorem q1_151 : (Cond.code ({ cls := "DikeWatch$Foretold", name := "<init>", desc := "(LDikeWatch$Told;LDikeWatch$Night;LDikeWatch$Night;)V" } : MethodName) prog_3_method_1_code (4 : Nat) (Option.none : Option ClassFile.FieldType)) ∈ W0 := wm1 151 rfl rfl
theorem q1_152 : (Cond.methodLink "DikeWatch$Foretold" (3 : Nat) ({ cls := "java/lang/Object", name := "<init>", desc := "()V" } : MethodName)) ∈ W0 := wm1 152 rfl rfl
theorem q1_153 : (Cond.fieldLink "DikeWatch$Foretold" (18 : Nat) "DikeWatch$Foretold" "told" "LDikeWatch$Told;") ∈ W0 := wm1 153 rfl rfl
theorem q1_154 : (Cond.fieldLink "DikeWatch$Foretold" (22 : Nat) "DikeWatch$Foretold" "now" "LDikeWatch$Night;") ∈ W0 := wm1 154 rfl rfl
theorem q1_155 : (Cond.fieldLink "DikeWatch$Foretold" (26 : Nat) "DikeWatch$Foretold" "ahead" "LDikeWatch$Night;") ∈ W0 := wm1 155 rfl rfl
theorem q1_156 : (Cond.fieldLink "DikeWatch$Foretold" (9 : Nat) "DikeWatch$Foretold" "breakHour" "[I") ∈ W0 := wm1 156 rfl rfl
theorem q1_157 : (Cond.fieldLink "DikeWatch$Foretold" (15 : Nat) "DikeWatch$Foretold" "heardInTime" "[I") ∈ W0 := wm1 157 rfl rfl
theorem q1_169 : (Cond.classLink "DikeWatch" (36 : Nat) "DikeWatch$Reader") ∈ W0 := wm1 169 rfl rfl
theorem q1_170 : (Cond.instantiable "DikeWatch$Reader" (6 : Nat)) ∈ W0 := wm1 170 rfl rfl
theorem q1_171 : (Cond.methodLink "DikeWatch" (38 : Nat) ({ cls := "DikeWatch$Reader", name := "<init>", desc := "(LDikeWatch$Text;LDikeWatch$Told;)V" } : MethodName)) ∈ W0 := wm1 171 rfl rfl
theorem q1_172 : (Cond.instanceMethod ({ cls := "DikeWatch$Reader", name := "<init>", desc := "(LDikeWatch$Text;LDikeWatch$Told;)V" } : MethodName)) ∈ W0 := wm1 172 rfl rfl
theorem q1_173 : (Cond.code ({ cls := "DikeWatch$Reader", name := "<init>", desc := "(LDikeWatch$Text;LDikeWatch$Told;)V" } : MethodName) prog_6_method_1_code (3 : Nat) (Option.none : Option ClassFile.FieldType)) ∈ W0 := wm1 173 rfl rfl
theorem q1_174 : (Cond.methodLink "DikeWatch$Reader" (3 : Nat) ({ cls := "java/lang/Object", name := "<init>", desc := "()V" } : MethodName)) ∈ W0 := wm1 174 rfl rfl
theorem q1_175 : (Cond.fieldLink "DikeWatch$Reader" (24 : Nat) "DikeWatch$Reader" "text" "LDikeWatch$Text;") ∈ W0 := wm1 175 rfl rfl
theorem q1_176 : (Cond.fieldLink "DikeWatch$Reader" (28 : Nat) "DikeWatch$Reader" "draft" "LDikeWatch$Told;") ∈ W0 := wm1 176 rfl rfl
theorem q1_177 : (Cond.fieldLink "DikeWatch$Reader" (11 : Nat) "DikeWatch$Reader" "sort" "I") ∈ W0 := wm1 177 rfl rfl
theorem q1_178 : (Cond.fieldLink "DikeWatch$Reader" (15 : Nat) "DikeWatch$Reader" "begin" "I") ∈ W0 := wm1 178 rfl rfl
theorem q1_179 : (Cond.fieldLink "DikeWatch$Reader" (18 : Nat) "DikeWatch$Reader" "end" "I") ∈ W0 := wm1 179 rfl rfl
theorem q1_180 : (Cond.fieldLink "DikeWatch$Reader" (21 : Nat) "DikeWatch$Reader" "lines" "I") ∈ W0 := wm1 180 rfl rfl
theorem q1_181 : (Cond.fieldLink "DikeWatch" (117 : Nat) "DikeWatch$Reader" "lines" "I") ∈ W0 := wm1 181 rfl rfl
theorem q1_195 : (Cond.classLink "DikeWatch" (63 : Nat) "DikeWatch$Men") ∈ W0 := wm1 195 rfl rfl
theorem q1_196 : (Cond.instantiable "DikeWatch$Men" (7 : Nat)) ∈ W0 := wm1 196 rfl rfl
theorem q1_197 : (Cond.methodLink "DikeWatch" (65 : Nat) ({ cls := "DikeWatch$Men", name := "<init>", desc := "(LDikeWatch$Told;LDikeWatch$Foretold;)V" } : MethodName)) ∈ W0 := wm1 197 rfl rfl
theorem q1_198 : (Cond.instanceMethod ({ cls := "DikeWatch$Men", name := "<init>", desc := "(LDikeWatch$Told;LDikeWatch$Foretold;)V" } : MethodName)) ∈ W0 := wm1 198 rfl rfl
theorem q1_199 : (Cond.code ({ cls := "DikeWatch$Men", name := "<init>", desc := "(LDikeWatch$Told;LDikeWatch$Foretold;)V" } : MethodName) prog_4_method_1_code (3 : Nat) (Option.none : Option ClassFile.FieldType)) ∈ W0 := wm1 199 rfl rfl
theorem q1_200 : (Cond.methodLink "DikeWatch$Men" (3 : Nat) ({ cls := "java/lang/Object", name := "<init>", desc := "()V" } : MethodName)) ∈ W0 := wm1 200 rfl rfl
theorem q1_201 : (Cond.fieldLink "DikeWatch$Men" (28 : Nat) "DikeWatch$Men" "told" "LDikeWatch$Told;") ∈ W0 := wm1 201 rfl rfl
theorem q1_202 : (Cond.fieldLink "DikeWatch$Men" (32 : Nat) "DikeWatch$Men" "foretold" "LDikeWatch$Foretold;") ∈ W0 := wm1 202 rfl rfl
theorem q1_203 : (Cond.fieldLink "DikeWatch$Men" (9 : Nat) "DikeWatch$Men" "breakHour" "[I") ∈ W0 := wm1 203 rfl rfl
theorem q1_204 : (Cond.fieldLink "DikeWatch$Men" (15 : Nat) "DikeWatch$Men" "row" "[I") ∈ W0 := wm1 204 rfl rfl
theorem q1_205 : (Cond.fieldLink "DikeWatch$Men" (18 : Nat) "DikeWatch$Men" "bestRow" "[I") ∈ W0 := wm1 205 rfl rfl
theorem q1_206 : (Cond.fieldLink "DikeWatch$Men" (21 : Nat) "DikeWatch$Men" "length" "I") ∈ W0 := wm1 206 rfl rfl
theorem q1_207 : (Cond.fieldLink "DikeWatch$Men" (25 : Nat) "DikeWatch$Men" "fewestLost" "I") ∈ W0 := wm1 207 rfl rfl
theorem q1_208 : (Cond.fieldLink "DikeWatch" (226 : Nat) "DikeWatch$Men" "fewestLost" "I") ∈ W0 := wm1 208 rfl rfl
theorem q1_224 : (Cond.classLink "DikeWatch" (72 : Nat) "DikeWatch$Storms") ∈ W0 := wm1 224 rfl rfl
theorem q1_225 : (Cond.instantiable "DikeWatch$Storms" (3 : Nat)) ∈ W0 := wm1 225 rfl rfl
theorem q1_227 : (Cond.instanceMethod ({ cls := "DikeWatch$Storms", name := "<init>", desc := "()V" } : MethodName)) ∈ W0 := wm1 227 rfl rfl
theorem q1_228 : (Cond.code ({ cls := "DikeWatch$Storms", name := "<init>", desc := "()V" } : MethodName) prog_7_method_1_code (1 : Nat) (Option.none : Option ClassFile.FieldType)) ∈ W0 := wm1 228 rfl rfl
theorem q1_229 : (Cond.methodLink "DikeWatch$Storms" (3 : Nat) ({ cls := "java/lang/Object", name := "<init>", desc := "()V" } : MethodName)) ∈ W0 := wm1 229 rfl rfl
theorem q1_230 : (Cond.fieldLink "DikeWatch$Storms" (9 : Nat) "DikeWatch$Storms" "ways" "[J") ∈ W0 := wm1 230 rfl rfl
theorem q1_231 : (Cond.fieldLink "DikeWatch$Storms" (15 : Nat) "DikeWatch$Storms" "above" "J") ∈ W0 := wm1 231 rfl rfl
theorem q1_232 : (Cond.fieldLink "DikeWatch" (246 : Nat) "DikeWatch$Storms" "above" "J") ∈ W0 := wm1 232 rfl rfl
theorem q1_233 : (Cond.fieldLink "DikeWatch$Storms" (19 : Nat) "DikeWatch$Storms" "below" "J") ∈ W0 := wm1 233 rfl rfl
theorem q1_234 : (Cond.fieldLink "DikeWatch" (250 : Nat) "DikeWatch$Storms" "below" "J") ∈ W0 := wm1 234 rfl rfl
theorem q2_2 : (Cond.arrayClass ClassFile.FieldType.long) ∈ W0 := wm2 2 rfl rfl
theorem q2_3 : (Cond.classLink "DikeWatch" (79 : Nat) "DikeWatch$Clues") ∈ W0 := wm2 3 rfl rfl
theorem q2_4 : (Cond.instantiable "DikeWatch$Clues" (3 : Nat)) ∈ W0 := wm2 4 rfl rfl
theorem q2_6 : (Cond.instanceMethod ({ cls := "DikeWatch$Clues", name := "<init>", desc := "()V" } : MethodName)) ∈ W0 := wm2 6 rfl rfl
theorem q2_7 : (Cond.code ({ cls := "DikeWatch$Clues", name := "<init>", desc := "()V" } : MethodName) prog_2_method_1_code (1 : Nat) (Option.none : Option ClassFile.FieldType)) ∈ W0 := wm2 7 rfl rfl
theorem q2_8 : (Cond.methodLink "DikeWatch$Clues" (3 : Nat) ({ cls := "java/lang/Object", name := "<init>", desc := "()V" } : MethodName)) ∈ W0 := wm2 8 rfl rfl
theorem q2_9 : (Cond.fieldLink "DikeWatch$Clues" (9 : Nat) "DikeWatch$Clues" "yards" "I") ∈ W0 := wm2 9 rfl rfl
theorem q2_10 : (Cond.fieldLink "DikeWatch$Clues" (15 : Nat) "DikeWatch$Clues" "count" "I") ∈ W0 := wm2 10 rfl rfl
theorem q2_11 : (Cond.fieldLink "DikeWatch" (264 : Nat) "DikeWatch$Clues" "count" "I") ∈ W0 := wm2 11 rfl rfl
theorem q2_12 : (Cond.fieldLink "DikeWatch$Clues" (18 : Nat) "DikeWatch$Clues" "possible" "I") ∈ W0 := wm2 12 rfl rfl
theorem q2_13 : (Cond.fieldLink "DikeWatch" (267 : Nat) "DikeWatch$Clues" "possible" "I") ∈ W0 := wm2 13 rfl rfl
theorem q2_21 : (Cond.fieldLink "DikeWatch" (23 : Nat) "DikeWatch" "text" "LDikeWatch$Text;") ∈ W0 := wm2 21 rfl rfl
theorem q2_22 : (Cond.fieldLink "DikeWatch" (29 : Nat) "DikeWatch" "told" "LDikeWatch$Told;") ∈ W0 := wm2 22 rfl rfl
theorem q2_23 : (Cond.fieldLink "DikeWatch" (33 : Nat) "DikeWatch" "draft" "LDikeWatch$Told;") ∈ W0 := wm2 23 rfl rfl
theorem q2_24 : (Cond.fieldLink "DikeWatch" (41 : Nat) "DikeWatch" "reader" "LDikeWatch$Reader;") ∈ W0 := wm2 24 rfl rfl
theorem q2_25 : (Cond.fieldLink "DikeWatch" (45 : Nat) "DikeWatch" "now" "LDikeWatch$Night;") ∈ W0 := wm2 25 rfl rfl
theorem q2_26 : (Cond.fieldLink "DikeWatch" (49 : Nat) "DikeWatch" "firstKept" "LDikeWatch$Night;") ∈ W0 := wm2 26 rfl rfl
theorem q2_27 : (Cond.fieldLink "DikeWatch" (52 : Nat) "DikeWatch" "secondKept" "LDikeWatch$Night;") ∈ W0 := wm2 27 rfl rfl
theorem q2_28 : (Cond.fieldLink "DikeWatch" (55 : Nat) "DikeWatch" "keptBits" "I") ∈ W0 := wm2 28 rfl rfl
theorem q2_29 : (Cond.fieldLink "DikeWatch" (59 : Nat) "DikeWatch" "foretold" "LDikeWatch$Foretold;") ∈ W0 := wm2 29 rfl rfl
theorem q2_30 : (Cond.fieldLink "DikeWatch" (68 : Nat) "DikeWatch" "men" "LDikeWatch$Men;") ∈ W0 := wm2 30 rfl rfl
theorem q2_31 : (Cond.fieldLink "DikeWatch" (75 : Nat) "DikeWatch" "stormOdds" "LDikeWatch$Storms;") ∈ W0 := wm2 31 rfl rfl
theorem q2_32 : (Cond.fieldLink "DikeWatch" (82 : Nat) "DikeWatch" "clues" "LDikeWatch$Clues;") ∈ W0 := wm2 32 rfl rfl
theorem q2_58 : (Cond.methodLink "DikeWatchLaw" (15 : Nat) ({ cls := "DikeWatch", name := "write", desc := "(JI)I" } : MethodName)) ∈ W0 := wm2 58 rfl rfl
theorem q2_59 : (Cond.instanceMethod ({ cls := "DikeWatch", name := "write", desc := "(JI)I" } : MethodName)) ∈ W0 := wm2 59 rfl rfl
theorem q2_60 : (Cond.selects "DikeWatch" ({ cls := "DikeWatch", name := "write", desc := "(JI)I" } : MethodName) ({ cls := "DikeWatch", name := "write", desc := "(JI)I" } : MethodName)) ∈ W0 := wm2 60 rfl rfl
theorem q2_61 : (Cond.code ({ cls := "DikeWatch", name := "write", desc := "(JI)I" } : MethodName) prog_1_method_2_code (4 : Nat) (Option.some ClassFile.FieldType.int)) ∈ W0 := wm2 61 rfl rfl
theorem q2_62 : (Cond.methodLink "DikeWatch" (86 : Nat) ({ cls := "DikeWatch", name := "isWithin", desc := "(III)Z" } : MethodName)) ∈ W0 := wm2 62 rfl rfl
theorem q2_63 : (Cond.static ({ cls := "DikeWatch", name := "isWithin", desc := "(III)Z" } : MethodName)) ∈ W0 := wm2 63 rfl rfl
theorem q2_64 : (Cond.code ({ cls := "DikeWatch", name := "isWithin", desc := "(III)Z" } : MethodName) prog_1_method_28_code (3 : Nat) (Option.some ClassFile.FieldType.boolean)) ∈ W0 := wm2 64 rfl rfl
theorem q2_65 : (Cond.methodLink "DikeWatch" (90 : Nat) ({ cls := "DikeWatch$Text", name := "hasRoomFor", desc := "(I)Z" } : MethodName)) ∈ W0 := wm2 65 rfl rfl
theorem q2_66 : (Cond.instanceMethod ({ cls := "DikeWatch$Text", name := "hasRoomFor", desc := "(I)Z" } : MethodName)) ∈ W0 := wm2 66 rfl rfl
theorem q2_67 : (Cond.selects "DikeWatch$Text" ({ cls := "DikeWatch$Text", name := "hasRoomFor", desc := "(I)Z" } : MethodName) ({ cls := "DikeWatch$Text", name := "hasRoomFor", desc := "(I)Z" } : MethodName)) ∈ W0 := wm2 67 rfl rfl
theorem q2_68 : (Cond.code ({ cls := "DikeWatch$Text", name := "hasRoomFor", desc := "(I)Z" } : MethodName) prog_8_method_2_code (2 : Nat) (Option.some ClassFile.FieldType.boolean)) ∈ W0 := wm2 68 rfl rfl
theorem q2_69 : (Cond.methodLink "DikeWatch" (94 : Nat) ({ cls := "DikeWatch$Text", name := "add", desc := "(JI)V" } : MethodName)) ∈ W0 := wm2 69 rfl rfl
theorem q2_70 : (Cond.instanceMethod ({ cls := "DikeWatch$Text", name := "add", desc := "(JI)V" } : MethodName)) ∈ W0 := wm2 70 rfl rfl
theorem q2_71 : (Cond.selects "DikeWatch$Text" ({ cls := "DikeWatch$Text", name := "add", desc := "(JI)V" } : MethodName) ({ cls := "DikeWatch$Text", name := "add", desc := "(JI)V" } : MethodName)) ∈ W0 := wm2 71 rfl rfl
theorem q2_72 : (Cond.code ({ cls := "DikeWatch$Text", name := "add", desc := "(JI)V" } : MethodName) prog_8_method_3_code (5 : Nat) (Option.none : Option ClassFile.FieldType)) ∈ W0 := wm2 72 rfl rfl
theorem q2_73 : (Cond.methodLink "DikeWatchLaw" (20 : Nat) ({ cls := "DikeWatch", name := "erase", desc := "()I" } : MethodName)) ∈ W0 := wm2 73 rfl rfl
theorem q2_74 : (Cond.instanceMethod ({ cls := "DikeWatch", name := "erase", desc := "()I" } : MethodName)) ∈ W0 := wm2 74 rfl rfl
theorem q2_75 : (Cond.selects "DikeWatch" ({ cls := "DikeWatch", name := "erase", desc := "()I" } : MethodName) ({ cls := "DikeWatch", name := "erase", desc := "()I" } : MethodName)) ∈ W0 := wm2 75 rfl rfl
theorem q2_76 : (Cond.code ({ cls := "DikeWatch", name := "erase", desc := "()I" } : MethodName) prog_1_method_3_code (2 : Nat) (Option.some ClassFile.FieldType.int)) ∈ W0 := wm2 76 rfl rfl
theorem q2_77 : (Cond.methodLink "DikeWatchLaw" (25 : Nat) ({ cls := "DikeWatch", name := "fault", desc := "()I" } : MethodName)) ∈ W0 := wm2 77 rfl rfl
theorem q2_78 : (Cond.instanceMethod ({ cls := "DikeWatch", name := "fault", desc := "()I" } : MethodName)) ∈ W0 := wm2 78 rfl rfl
theorem q2_79 : (Cond.selects "DikeWatch" ({ cls := "DikeWatch", name := "fault", desc := "()I" } : MethodName) ({ cls := "DikeWatch", name := "fault", desc := "()I" } : MethodName)) ∈ W0 := wm2 79 rfl rfl
theorem q2_80 : (Cond.code ({ cls := "DikeWatch", name := "fault", desc := "()I" } : MethodName) prog_1_method_4_code (1 : Nat) (Option.some ClassFile.FieldType.int)) ∈ W0 := wm2 80 rfl rfl
theorem q2_81 : (Cond.methodLink "DikeWatch" (101 : Nat) ({ cls := "DikeWatch$Told", name := "copyFrom", desc := "(LDikeWatch$Told;)V" } : MethodName)) ∈ W0 := wm2 81 rfl rfl
theorem q2_82 : (Cond.instanceMethod ({ cls := "DikeWatch$Told", name := "copyFrom", desc := "(LDikeWatch$Told;)V" } : MethodName)) ∈ W0 := wm2 82 rfl rfl
theorem q2_83 : (Cond.selects "DikeWatch$Told" ({ cls := "DikeWatch$Told", name := "copyFrom", desc := "(LDikeWatch$Told;)V" } : MethodName) ({ cls := "DikeWatch$Told", name := "copyFrom", desc := "(LDikeWatch$Told;)V" } : MethodName)) ∈ W0 := wm2 83 rfl rfl
theorem q2_84 : (Cond.code ({ cls := "DikeWatch$Told", name := "copyFrom", desc := "(LDikeWatch$Told;)V" } : MethodName) prog_9_method_2_code (2 : Nat) (Option.none : Option ClassFile.FieldType)) ∈ W0 := wm2 84 rfl rfl
theorem q2_85 : (Cond.methodLink "DikeWatch$Told" (49 : Nat) ({ cls := "java/lang/System", name := "arraycopy", desc := "(Ljava/lang/Object;ILjava/lang/Object;II)V" } : MethodName)) ∈ W0 := wm2 85 rfl rfl
theorem q2_86 : (Cond.static ({ cls := "java/lang/System", name := "arraycopy", desc := "(Ljava/lang/Object;ILjava/lang/Object;II)V" } : MethodName)) ∈ W0 := wm2 86 rfl rfl
theorem q2_87 : (Cond.native ({ cls := "java/lang/System", name := "arraycopy", desc := "(Ljava/lang/Object;ILjava/lang/Object;II)V" } : MethodName)) ∈ W0 := wm2 87 rfl rfl
theorem q2_88 : (Cond.methodLink "DikeWatch" (104 : Nat) ({ cls := "DikeWatch$Reader", name := "readToFault", desc := "()I" } : MethodName)) ∈ W0 := wm2 88 rfl rfl
theorem q2_89 : (Cond.instanceMethod ({ cls := "DikeWatch$Reader", name := "readToFault", desc := "()I" } : MethodName)) ∈ W0 := wm2 89 rfl rfl
theorem q2_90 : (Cond.selects "DikeWatch$Reader" ({ cls := "DikeWatch$Reader", name := "readToFault", desc := "()I" } : MethodName) ({ cls := "DikeWatch$Reader", name := "readToFault", desc := "()I" } : MethodName)) ∈ W0 := wm2 90 rfl rfl
theorem q2_91 : (Cond.code ({ cls := "DikeWatch$Reader", name := "readToFault", desc := "()I" } : MethodName) prog_6_method_2_code (1 : Nat) (Option.some ClassFile.FieldType.int)) ∈ W0 := wm2 91 rfl rfl
theorem q2_92 : (Cond.methodLink "DikeWatch$Reader" (32 : Nat) ({ cls := "DikeWatch$Reader", name := "readLine", desc := "()Z" } : MethodName)) ∈ W0 := wm2 92 rfl rfl
theorem q2_94 : (Cond.instanceMethod ({ cls := "DikeWatch$Reader", name := "readLine", desc := "()Z" } : MethodName)) ∈ W0 := wm2 94 rfl rfl
theorem q2_95 : (Cond.code ({ cls := "DikeWatch$Reader", name := "readLine", desc := "()Z" } : MethodName) prog_6_method_3_code (2 : Nat) (Option.some ClassFile.FieldType.boolean)) ∈ W0 := wm2 95 rfl rfl
theorem q2_96 : (Cond.methodLink "DikeWatch$Reader" (36 : Nat) ({ cls := "DikeWatch$Reader", name := "toNextToken", desc := "()V" } : MethodName)) ∈ W0 := wm2 96 rfl rfl
theorem q2_98 : (Cond.instanceMethod ({ cls := "DikeWatch$Reader", name := "toNextToken", desc := "()V" } : MethodName)) ∈ W0 := wm2 98 rfl rfl
theorem q2_99 : (Cond.code ({ cls := "DikeWatch$Reader", name := "toNextToken", desc := "()V" } : MethodName) prog_6_method_11_code (2 : Nat) (Option.none : Option ClassFile.FieldType)) ∈ W0 := wm2 99 rfl rfl
theorem q2_100 : (Cond.methodLink "DikeWatch$Reader" (39 : Nat) ({ cls := "DikeWatch$Text", name := "signAt", desc := "(I)I" } : MethodName)) ∈ W0 := wm2 100 rfl rfl
theorem q2_101 : (Cond.instanceMethod ({ cls := "DikeWatch$Text", name := "signAt", desc := "(I)I" } : MethodName)) ∈ W0 := wm2 101 rfl rfl
theorem q2_102 : (Cond.selects "DikeWatch$Text" ({ cls := "DikeWatch$Text", name := "signAt", desc := "(I)I" } : MethodName) ({ cls := "DikeWatch$Text", name := "signAt", desc := "(I)I" } : MethodName)) ∈ W0 := wm2 102 rfl rfl
theorem q2_103 : (Cond.code ({ cls := "DikeWatch$Text", name := "signAt", desc := "(I)I" } : MethodName) prog_8_method_4_code (2 : Nat) (Option.some ClassFile.FieldType.int)) ∈ W0 := wm2 103 rfl rfl
theorem q2_104 : (Cond.methodLink "DikeWatch$Reader" (135 : Nat) ({ cls := "DikeWatch$Reader", name := "sortOf", desc := "(I)I" } : MethodName)) ∈ W0 := wm2 104 rfl rfl
theorem q2_105 : (Cond.static ({ cls := "DikeWatch$Reader", name := "sortOf", desc := "(I)I" } : MethodName)) ∈ W0 := wm2 105 rfl rfl
theorem q2_106 : (Cond.code ({ cls := "DikeWatch$Reader", name := "sortOf", desc := "(I)I" } : MethodName) prog_6_method_12_code (1 : Nat) (Option.some ClassFile.FieldType.int)) ∈ W0 := wm2 106 rfl rfl
theorem q2_108 : (Cond.methodLink "DikeWatch$Reader" (47 : Nat) ({ cls := "DikeWatch$Reader", name := "isWord", desc := "(Ljava/lang/String;)Z" } : MethodName)) ∈ W0 := wm2 108 rfl rfl
theorem q2_110 : (Cond.instanceMethod ({ cls := "DikeWatch$Reader", name := "isWord", desc := "(Ljava/lang/String;)Z" } : MethodName)) ∈ W0 := wm2 110 rfl rfl
theorem q2_111 : (Cond.code ({ cls := "DikeWatch$Reader", name := "isWord", desc := "(Ljava/lang/String;)Z" } : MethodName) prog_6_method_10_code (3 : Nat) (Option.some ClassFile.FieldType.boolean)) ∈ W0 := wm2 111 rfl rfl
theorem q2_112 : (Cond.methodLink "DikeWatch$Reader" (124 : Nat) ({ cls := "java/lang/String", name := "length", desc := "()I" } : MethodName)) ∈ W0 := wm2 112 rfl rfl
theorem q2_113 : (Cond.instanceMethod ({ cls := "java/lang/String", name := "length", desc := "()I" } : MethodName)) ∈ W0 := wm2 113 rfl rfl
theorem q2_114 : (Cond.selects "java/lang/String" ({ cls := "java/lang/String", name := "length", desc := "()I" } : MethodName) ({ cls := "java/lang/String", name := "length", desc := "()I" } : MethodName)) ∈ W0 := wm2 114 rfl rfl
theorem q2_115 : (Cond.code ({ cls := "java/lang/String", name := "length", desc := "()I" } : MethodName) prog_14_method_54_code (1 : Nat) (Option.some ClassFile.FieldType.int)) ∈ W0 := wm2 115 rfl rfl
theorem q2_116 : (Cond.methodLink "java/lang/String" (335 : Nat) ({ cls := "java/lang/String", name := "coder", desc := "()B" } : MethodName)) ∈ W0 := wm2 116 rfl rfl
theorem q2_117 : (Cond.instanceMethod ({ cls := "java/lang/String", name := "coder", desc := "()B" } : MethodName)) ∈ W0 := wm2 117 rfl rfl
theorem q2_118 : (Cond.selects "java/lang/String" ({ cls := "java/lang/String", name := "coder", desc := "()B" } : MethodName) ({ cls := "java/lang/String", name := "coder", desc := "()B" } : MethodName)) ∈ W0 := wm2 118 rfl rfl
theorem q2_119 : (Cond.code ({ cls := "java/lang/String", name := "coder", desc := "()B" } : MethodName) prog_14_method_152_code (1 : Nat) (Option.some ClassFile.FieldType.byte)) ∈ W0 := wm2 119 rfl rfl
theorem q2_120 : (Cond.fieldLink "java/lang/String" (38 : Nat) "java/lang/String" "COMPACT_STRINGS" "Z") ∈ W0 := wm2 120 rfl rfl
theorem q2_122 : (Cond.methodLink "DikeWatch$Reader" (129 : Nat) ({ cls := "java/lang/String", name := "charAt", desc := "(I)C" } : MethodName)) ∈ W0 := wm2 122 rfl rfl
theorem q2_123 : (Cond.instanceMethod ({ cls := "java/lang/String", name := "charAt", desc := "(I)C" } : MethodName)) ∈ W0 := wm2 123 rfl rfl
theorem q2_124 : (Cond.selects "java/lang/String" ({ cls := "java/lang/String", name := "charAt", desc := "(I)C" } : MethodName) ({ cls := "java/lang/String", name := "charAt", desc := "(I)C" } : MethodName)) ∈ W0 := wm2 124 rfl rfl
theorem q2_125 : (Cond.code ({ cls := "java/lang/String", name := "charAt", desc := "(I)C" } : MethodName) prog_14_method_56_code (2 : Nat) (Option.some ClassFile.FieldType.char)) ∈ W0 := wm2 125 rfl rfl
theorem q2_126 : (Cond.methodLink "java/lang/String" (492 : Nat) ({ cls := "java/lang/String", name := "isLatin1", desc := "()Z" } : MethodName)) ∈ W0 := wm2 126 rfl rfl
theorem q2_127 : (Cond.instanceMethod ({ cls := "java/lang/String", name := "isLatin1", desc := "()Z" } : MethodName)) ∈ W0 := wm2 127 rfl rfl
theorem q2_128 : (Cond.selects "java/lang/String" ({ cls := "java/lang/String", name := "isLatin1", desc := "()Z" } : MethodName) ({ cls := "java/lang/String", name := "isLatin1", desc := "()Z" } : MethodName)) ∈ W0 := wm2 128 rfl rfl
theorem q2_129 : (Cond.code ({ cls := "java/lang/String", name := "isLatin1", desc := "()Z" } : MethodName) prog_14_method_154_code (1 : Nat) (Option.some ClassFile.FieldType.boolean)) ∈ W0 := wm2 129 rfl rfl
theorem q2_130 : (Cond.methodLink "java/lang/String" (495 : Nat) ({ cls := "java/lang/StringLatin1", name := "charAt", desc := "([BI)C" } : MethodName)) ∈ W0 := wm2 130 rfl rfl
theorem q2_131 : (Cond.static ({ cls := "java/lang/StringLatin1", name := "charAt", desc := "([BI)C" } : MethodName)) ∈ W0 := wm2 131 rfl rfl
theorem q2_132 : (Cond.code ({ cls := "java/lang/StringLatin1", name := "charAt", desc := "([BI)C" } : MethodName) prog_15_method_2_code (2 : Nat) (Option.some ClassFile.FieldType.char)) ∈ W0 := wm2 132 rfl rfl
theorem q2_133 : (Cond.methodLink "java/lang/StringLatin1" (9 : Nat) ({ cls := "java/lang/String", name := "checkIndex", desc := "(II)V" } : MethodName)) ∈ W0 := wm2 133 rfl rfl
theorem q2_134 : (Cond.static ({ cls := "java/lang/String", name := "checkIndex", desc := "(II)V" } : MethodName)) ∈ W0 := wm2 134 rfl rfl
theorem q2_135 : (Cond.code ({ cls := "java/lang/String", name := "checkIndex", desc := "(II)V" } : MethodName) prog_14_method_155_code (2 : Nat) (Option.none : Option ClassFile.FieldType)) ∈ W0 := wm2 135 rfl rfl
theorem q2_136 : (Cond.fieldLink "java/lang/String" (1053 : Nat) "jdk/internal/util/Preconditions" "SIOOBE_FORMATTER" "Ljava/util/function/BiFunction;") ∈ W0 := wm2 136 rfl rfl
theorem q2_138 : (Cond.methodLink "java/lang/String" (1059 : Nat) ({ cls := "jdk/internal/util/Preconditions", name := "checkIndex", desc := "(IILjava/util/function/BiFunction;)I" } : MethodName)) ∈ W0 := wm2 138 rfl rfl
theorem q2_139 : (Cond.static ({ cls := "jdk/internal/util/Preconditions", name := "checkIndex", desc := "(IILjava/util/function/BiFunction;)I" } : MethodName)) ∈ W0 := wm2 139 rfl rfl
theorem q2_140 : (Cond.code ({ cls := "jdk/internal/util/Preconditions", name := "checkIndex", desc := "(IILjava/util/function/BiFunction;)I" } : MethodName) prog_19_method_11_code (3 : Nat) (Option.some ClassFile.FieldType.int)) ∈ W0 := wm2 140 rfl rfl
theorem q2_141 : (Cond.methodLink "java/lang/String" (498 : Nat) ({ cls := "java/lang/StringUTF16", name := "charAt", desc := "([BI)C" } : MethodName)) ∈ W0 := wm2 141 rfl rfl
theorem q2_142 : (Cond.static ({ cls := "java/lang/StringUTF16", name := "charAt", desc := "([BI)C" } : MethodName)) ∈ W0 := wm2 142 rfl rfl
theorem q2_143 : (Cond.code ({ cls := "java/lang/StringUTF16", name := "charAt", desc := "([BI)C" } : MethodName) prog_16_method_83_code (2 : Nat) (Option.some ClassFile.FieldType.char)) ∈ W0 := wm2 143 rfl rfl
theorem q2_144 : (Cond.methodLink "java/lang/StringUTF16" (67 : Nat) ({ cls := "java/lang/StringUTF16", name := "checkIndex", desc := "(I[B)V" } : MethodName)) ∈ W0 := wm2 144 rfl rfl
theorem q2_145 : (Cond.static ({ cls := "java/lang/StringUTF16", name := "checkIndex", desc := "(I[B)V" } : MethodName)) ∈ W0 := wm2 145 rfl rfl
theorem q2_146 : (Cond.code ({ cls := "java/lang/StringUTF16", name := "checkIndex", desc := "(I[B)V" } : MethodName) prog_16_method_91_code (2 : Nat) (Option.none : Option ClassFile.FieldType)) ∈ W0 := wm2 146 rfl rfl
theorem q2_147 : (Cond.methodLink "java/lang/StringUTF16" (48 : Nat) ({ cls := "java/lang/StringUTF16", name := "length", desc := "([B)I" } : MethodName)) ∈ W0 := wm2 147 rfl rfl
theorem q2_148 : (Cond.static ({ cls := "java/lang/StringUTF16", name := "length", desc := "([B)I" } : MethodName)) ∈ W0 := wm2 148 rfl rfl
theorem q2_149 : (Cond.code ({ cls := "java/lang/StringUTF16", name := "length", desc := "([B)I" } : MethodName) prog_16_method_6_code (1 : Nat) (Option.some ClassFile.FieldType.int)) ∈ W0 := wm2 149 rfl rfl
theorem q2_150 : (Cond.methodLink "java/lang/StringUTF16" (414 : Nat) ({ cls := "java/lang/String", name := "checkIndex", desc := "(II)V" } : MethodName)) ∈ W0 := wm2 150 rfl rfl
theorem q2_151 : (Cond.methodLink "java/lang/StringUTF16" (71 : Nat) ({ cls := "java/lang/StringUTF16", name := "getChar", desc := "([BI)C" } : MethodName)) ∈ W0 := wm2 151 rfl rfl
theorem q2_152 : (Cond.static ({ cls := "java/lang/StringUTF16", name := "getChar", desc := "([BI)C" } : MethodName)) ∈ W0 := wm2 152 rfl rfl
theorem q2_153 : (Cond.code ({ cls := "java/lang/StringUTF16", name := "getChar", desc := "([BI)C" } : MethodName) prog_16_method_5_code (2 : Nat) (Option.some ClassFile.FieldType.char)) ∈ W0 := wm2 153 rfl rfl
theorem q2_154 : (Cond.fieldLink "java/lang/StringUTF16" (44 : Nat) "java/lang/StringUTF16" "$assertionsDisabled" "Z") ∈ W0 := wm2 154 rfl rfl
theorem q2_156 : (Cond.fieldLink "java/lang/StringUTF16" (59 : Nat) "java/lang/StringUTF16" "HI_BYTE_SHIFT" "I") ∈ W0 := wm2 156 rfl rfl
theorem q2_158 : (Cond.fieldLink "java/lang/StringUTF16" (63 : Nat) "java/lang/StringUTF16" "LO_BYTE_SHIFT" "I") ∈ W0 := wm2 158 rfl rfl
theorem q2_160 : (Cond.methodLink "DikeWatch$Reader" (51 : Nat) ({ cls := "DikeWatch$Reader", name := "readDike", desc := "()Z" } : MethodName)) ∈ W0 := wm2 160 rfl rfl
theorem q2_162 : (Cond.instanceMethod ({ cls := "DikeWatch$Reader", name := "readDike", desc := "()Z" } : MethodName)) ∈ W0 := wm2 162 rfl rfl
theorem q2_163 : (Cond.code ({ cls := "DikeWatch$Reader", name := "readDike", desc := "()Z" } : MethodName) prog_6_method_5_code (2 : Nat) (Option.some ClassFile.FieldType.boolean)) ∈ W0 := wm2 163 rfl rfl
theorem q2_164 : (Cond.methodLink "DikeWatch$Reader" (92 : Nat) ({ cls := "DikeWatch$Reader", name := "readNumber", desc := "(II)I" } : MethodName)) ∈ W0 := wm2 164 rfl rfl
theorem q2_166 : (Cond.instanceMethod ({ cls := "DikeWatch$Reader", name := "readNumber", desc := "(II)I" } : MethodName)) ∈ W0 := wm2 166 rfl rfl
theorem q2_167 : (Cond.code ({ cls := "DikeWatch$Reader", name := "readNumber", desc := "(II)I" } : MethodName) prog_6_method_9_code (5 : Nat) (Option.some ClassFile.FieldType.int)) ∈ W0 := wm2 167 rfl rfl
theorem q2_169 : (Cond.methodLink "DikeWatch$Reader" (96 : Nat) ({ cls := "DikeWatch$Told", name := "startAnew", desc := "(I)V" } : MethodName)) ∈ W0 := wm2 169 rfl rfl
theorem q2_170 : (Cond.instanceMethod ({ cls := "DikeWatch$Told", name := "startAnew", desc := "(I)V" } : MethodName)) ∈ W0 := wm2 170 rfl rfl
theorem q2_171 : (Cond.selects "DikeWatch$Told" ({ cls := "DikeWatch$Told", name := "startAnew", desc := "(I)V" } : MethodName) ({ cls := "DikeWatch$Told", name := "startAnew", desc := "(I)V" } : MethodName)) ∈ W0 := wm2 171 rfl rfl
theorem q2_172 : (Cond.code ({ cls := "DikeWatch$Told", name := "startAnew", desc := "(I)V" } : MethodName) prog_9_method_3_code (2 : Nat) (Option.none : Option ClassFile.FieldType)) ∈ W0 := wm2 172 rfl rfl
theorem q2_173 : (Cond.methodLink "DikeWatch$Told" (55 : Nat) ({ cls := "java/util/Arrays", name := "fill", desc := "([II)V" } : MethodName)) ∈ W0 := wm2 173 rfl rfl
theorem q2_174 : (Cond.static ({ cls := "java/util/Arrays", name := "fill", desc := "([II)V" } : MethodName)) ∈ W0 := wm2 174 rfl rfl
theorem q2_175 : (Cond.code ({ cls := "java/util/Arrays", name := "fill", desc := "([II)V" } : MethodName) prog_18_method_103_code (4 : Nat) (Option.none : Option ClassFile.FieldType)) ∈ W0 := wm2 175 rfl rfl
theorem q2_177 : (Cond.methodLink "DikeWatch$Reader" (56 : Nat) ({ cls := "DikeWatch$Reader", name := "readTide", desc := "()Z" } : MethodName)) ∈ W0 := wm2 177 rfl rfl
theorem q2_179 : (Cond.instanceMethod ({ cls := "DikeWatch$Reader", name := "readTide", desc := "()Z" } : MethodName)) ∈ W0 := wm2 179 rfl rfl
theorem q2_180 : (Cond.code ({ cls := "DikeWatch$Reader", name := "readTide", desc := "()Z" } : MethodName) prog_6_method_6_code (3 : Nat) (Option.some ClassFile.FieldType.boolean)) ∈ W0 := wm2 180 rfl rfl
theorem q2_182 : (Cond.methodLink "DikeWatch$Reader" (61 : Nat) ({ cls := "DikeWatch$Reader", name := "readSeep", desc := "()Z" } : MethodName)) ∈ W0 := wm2 182 rfl rfl
theorem q2_184 : (Cond.instanceMethod ({ cls := "DikeWatch$Reader", name := "readSeep", desc := "()Z" } : MethodName)) ∈ W0 := wm2 184 rfl rfl
theorem q2_185 : (Cond.code ({ cls := "DikeWatch$Reader", name := "readSeep", desc := "()Z" } : MethodName) prog_6_method_7_code (5 : Nat) (Option.some ClassFile.FieldType.boolean)) ∈ W0 := wm2 185 rfl rfl
theorem q2_186 : (Cond.methodLink "DikeWatch$Reader" (104 : Nat) ({ cls := "DikeWatch$Told", name := "hasRoomForSeep", desc := "()Z" } : MethodName)) ∈ W0 := wm2 186 rfl rfl
theorem q2_187 : (Cond.instanceMethod ({ cls := "DikeWatch$Told", name := "hasRoomForSeep", desc := "()Z" } : MethodName)) ∈ W0 := wm2 187 rfl rfl
theorem q2_188 : (Cond.selects "DikeWatch$Told" ({ cls := "DikeWatch$Told", name := "hasRoomForSeep", desc := "()Z" } : MethodName) ({ cls := "DikeWatch$Told", name := "hasRoomForSeep", desc := "()Z" } : MethodName)) ∈ W0 := wm2 188 rfl rfl
theorem q2_189 : (Cond.code ({ cls := "DikeWatch$Told", name := "hasRoomForSeep", desc := "()Z" } : MethodName) prog_9_method_4_code (1 : Nat) (Option.some ClassFile.FieldType.boolean)) ∈ W0 := wm2 189 rfl rfl
theorem q2_190 : (Cond.methodLink "DikeWatch$Reader" (110 : Nat) ({ cls := "DikeWatch$Told", name := "addSeep", desc := "(IIII)V" } : MethodName)) ∈ W0 := wm2 190 rfl rfl
theorem q2_191 : (Cond.instanceMethod ({ cls := "DikeWatch$Told", name := "addSeep", desc := "(IIII)V" } : MethodName)) ∈ W0 := wm2 191 rfl rfl
theorem q2_192 : (Cond.selects "DikeWatch$Told" ({ cls := "DikeWatch$Told", name := "addSeep", desc := "(IIII)V" } : MethodName) ({ cls := "DikeWatch$Told", name := "addSeep", desc := "(IIII)V" } : MethodName)) ∈ W0 := wm2 192 rfl rfl
theorem q2_193 : (Cond.code ({ cls := "DikeWatch$Told", name := "addSeep", desc := "(IIII)V" } : MethodName) prog_9_method_5_code (5 : Nat) (Option.none : Option ClassFile.FieldType)) ∈ W0 := wm2 193 rfl rfl
theorem q2_194 : (Cond.methodLink "DikeWatch$Told" (61 : Nat) ({ cls := "DikeWatch$Told", name := "hasRoomForSeep", desc := "()Z" } : MethodName)) ∈ W0 := wm2 194 rfl rfl
theorem q2_197 : (Cond.methodLink "DikeWatch$Reader" (76 : Nat) ({ cls := "DikeWatch$Reader", name := "kindOfWord", desc := "()I" } : MethodName)) ∈ W0 := wm2 197 rfl rfl
theorem q2_199 : (Cond.instanceMethod ({ cls := "DikeWatch$Reader", name := "kindOfWord", desc := "()I" } : MethodName)) ∈ W0 := wm2 199 rfl rfl
theorem q2_200 : (Cond.code ({ cls := "DikeWatch$Reader", name := "kindOfWord", desc := "()I" } : MethodName) prog_6_method_4_code (1 : Nat) (Option.some ClassFile.FieldType.int)) ∈ W0 := wm2 200 rfl rfl
theorem q2_205 : (Cond.methodLink "DikeWatch$Reader" (80 : Nat) ({ cls := "DikeWatch$Reader", name := "readChild", desc := "(I)Z" } : MethodName)) ∈ W0 := wm2 205 rfl rfl
theorem q2_207 : (Cond.instanceMethod ({ cls := "DikeWatch$Reader", name := "readChild", desc := "(I)Z" } : MethodName)) ∈ W0 := wm2 207 rfl rfl
theorem q2_208 : (Cond.code ({ cls := "DikeWatch$Reader", name := "readChild", desc := "(I)Z" } : MethodName) prog_6_method_8_code (5 : Nat) (Option.some ClassFile.FieldType.boolean)) ∈ W0 := wm2 208 rfl rfl
theorem q2_209 : (Cond.methodLink "DikeWatch$Reader" (114 : Nat) ({ cls := "DikeWatch$Told", name := "hasRoomForChild", desc := "()Z" } : MethodName)) ∈ W0 := wm2 209 rfl rfl
theorem q2_210 : (Cond.instanceMethod ({ cls := "DikeWatch$Told", name := "hasRoomForChild", desc := "()Z" } : MethodName)) ∈ W0 := wm2 210 rfl rfl
theorem q2_211 : (Cond.selects "DikeWatch$Told" ({ cls := "DikeWatch$Told", name := "hasRoomForChild", desc := "()Z" } : MethodName) ({ cls := "DikeWatch$Told", name := "hasRoomForChild", desc := "()Z" } : MethodName)) ∈ W0 := wm2 211 rfl rfl
theorem q2_212 : (Cond.code ({ cls := "DikeWatch$Told", name := "hasRoomForChild", desc := "()Z" } : MethodName) prog_9_method_6_code (1 : Nat) (Option.some ClassFile.FieldType.boolean)) ∈ W0 := wm2 212 rfl rfl
theorem q2_213 : (Cond.methodLink "DikeWatch$Reader" (117 : Nat) ({ cls := "DikeWatch$Told", name := "addChild", desc := "(IIII)V" } : MethodName)) ∈ W0 := wm2 213 rfl rfl
theorem q2_214 : (Cond.instanceMethod ({ cls := "DikeWatch$Told", name := "addChild", desc := "(IIII)V" } : MethodName)) ∈ W0 := wm2 214 rfl rfl
theorem q2_215 : (Cond.selects "DikeWatch$Told" ({ cls := "DikeWatch$Told", name := "addChild", desc := "(IIII)V" } : MethodName) ({ cls := "DikeWatch$Told", name := "addChild", desc := "(IIII)V" } : MethodName)) ∈ W0 := wm2 215 rfl rfl
theorem q2_216 : (Cond.code ({ cls := "DikeWatch$Told", name := "addChild", desc := "(IIII)V" } : MethodName) prog_9_method_7_code (5 : Nat) (Option.none : Option ClassFile.FieldType)) ∈ W0 := wm2 216 rfl rfl
theorem q2_217 : (Cond.methodLink "DikeWatch$Told" (65 : Nat) ({ cls := "DikeWatch$Told", name := "hasRoomForChild", desc := "()Z" } : MethodName)) ∈ W0 := wm2 217 rfl rfl
theorem q2_218 : (Cond.methodLink "DikeWatchLaw" (29 : Nat) ({ cls := "DikeWatch", name := "dike", desc := "()I" } : MethodName)) ∈ W0 := wm2 218 rfl rfl
theorem q2_219 : (Cond.instanceMethod ({ cls := "DikeWatch", name := "dike", desc := "()I" } : MethodName)) ∈ W0 := wm2 219 rfl rfl
theorem q2_220 : (Cond.selects "DikeWatch" ({ cls := "DikeWatch", name := "dike", desc := "()I" } : MethodName) ({ cls := "DikeWatch", name := "dike", desc := "()I" } : MethodName)) ∈ W0 := wm2 220 rfl rfl
theorem q2_221 : (Cond.code ({ cls := "DikeWatch", name := "dike", desc := "()I" } : MethodName) prog_1_method_5_code (1 : Nat) (Option.some ClassFile.FieldType.int)) ∈ W0 := wm2 221 rfl rfl
theorem q2_222 : (Cond.methodLink "DikeWatch" (108 : Nat) ({ cls := "DikeWatch$Night", name := "begin", desc := "()V" } : MethodName)) ∈ W0 := wm2 222 rfl rfl
theorem q2_223 : (Cond.instanceMethod ({ cls := "DikeWatch$Night", name := "begin", desc := "()V" } : MethodName)) ∈ W0 := wm2 223 rfl rfl
theorem q2_224 : (Cond.selects "DikeWatch$Night" ({ cls := "DikeWatch$Night", name := "begin", desc := "()V" } : MethodName) ({ cls := "DikeWatch$Night", name := "begin", desc := "()V" } : MethodName)) ∈ W0 := wm2 224 rfl rfl
theorem q2_225 : (Cond.code ({ cls := "DikeWatch$Night", name := "begin", desc := "()V" } : MethodName) prog_5_method_2_code (1 : Nat) (Option.none : Option ClassFile.FieldType)) ∈ W0 := wm2 225 rfl rfl
theorem q2_226 : (Cond.methodLink "DikeWatch$Night" (40 : Nat) ({ cls := "java/lang/System", name := "arraycopy", desc := "(Ljava/lang/Object;ILjava/lang/Object;II)V" } : MethodName)) ∈ W0 := wm2 226 rfl rfl
theorem q2_227 : (Cond.methodLink "DikeWatch$Night" (49 : Nat) ({ cls := "java/util/Arrays", name := "fill", desc := "([II)V" } : MethodName)) ∈ W0 := wm2 227 rfl rfl
theorem q2_228 : (Cond.methodLink "DikeWatch" (114 : Nat) ({ cls := "DikeWatch$Clues", name := "begin", desc := "(I)V" } : MethodName)) ∈ W0 := wm2 228 rfl rfl
theorem q2_229 : (Cond.instanceMethod ({ cls := "DikeWatch$Clues", name := "begin", desc := "(I)V" } : MethodName)) ∈ W0 := wm2 229 rfl rfl
theorem q2_230 : (Cond.selects "DikeWatch$Clues" ({ cls := "DikeWatch$Clues", name := "begin", desc := "(I)V" } : MethodName) ({ cls := "DikeWatch$Clues", name := "begin", desc := "(I)V" } : MethodName)) ∈ W0 := wm2 230 rfl rfl
theorem q2_231 : (Cond.code ({ cls := "DikeWatch$Clues", name := "begin", desc := "(I)V" } : MethodName) prog_2_method_2_code (2 : Nat) (Option.none : Option ClassFile.FieldType)) ∈ W0 := wm2 231 rfl rfl
theorem q2_232 : (Cond.methodLink "DikeWatchLaw" (33 : Nat) ({ cls := "DikeWatch", name := "tide", desc := "(I)I" } : MethodName)) ∈ W0 := wm2 232 rfl rfl
theorem q2_233 : (Cond.instanceMethod ({ cls := "DikeWatch", name := "tide", desc := "(I)I" } : MethodName)) ∈ W0 := wm2 233 rfl rfl
theorem q2_234 : (Cond.selects "DikeWatch" ({ cls := "DikeWatch", name := "tide", desc := "(I)I" } : MethodName) ({ cls := "DikeWatch", name := "tide", desc := "(I)I" } : MethodName)) ∈ W0 := wm2 234 rfl rfl
theorem q2_235 : (Cond.code ({ cls := "DikeWatch", name := "tide", desc := "(I)I" } : MethodName) prog_1_method_6_code (2 : Nat) (Option.some ClassFile.FieldType.int)) ∈ W0 := wm2 235 rfl rfl
theorem q2_236 : (Cond.methodLink "DikeWatch" (120 : Nat) ({ cls := "DikeWatch$Told", name := "tideAt", desc := "(I)I" } : MethodName)) ∈ W0 := wm2 236 rfl rfl
theorem q2_237 : (Cond.instanceMethod ({ cls := "DikeWatch$Told", name := "tideAt", desc := "(I)I" } : MethodName)) ∈ W0 := wm2 237 rfl rfl
theorem q2_238 : (Cond.selects "DikeWatch$Told" ({ cls := "DikeWatch$Told", name := "tideAt", desc := "(I)I" } : MethodName) ({ cls := "DikeWatch$Told", name := "tideAt", desc := "(I)I" } : MethodName)) ∈ W0 := wm2 238 rfl rfl
theorem q2_239 : (Cond.code ({ cls := "DikeWatch$Told", name := "tideAt", desc := "(I)I" } : MethodName) prog_9_method_13_code (2 : Nat) (Option.some ClassFile.FieldType.int)) ∈ W0 := wm2 239 rfl rfl
theorem q3_0 : (Cond.methodLink "DikeWatch$Told" (72 : Nat) ({ cls := "java/lang/Math", name := "floorMod", desc := "(II)I" } : MethodName)) ∈ W0 := wm3 0 rfl rfl
theorem q3_1 : (Cond.static ({ cls := "java/lang/Math", name := "floorMod", desc := "(II)I" } : MethodName)) ∈ W0 := wm3 1 rfl rfl
theorem q3_2 : (Cond.code ({ cls := "java/lang/Math", name := "floorMod", desc := "(II)I" } : MethodName) prog_13_method_50_code (3 : Nat) (Option.some ClassFile.FieldType.int)) ∈ W0 := wm3 2 rfl rfl
theorem q3_3 : (Cond.methodLink "DikeWatchLaw" (38 : Nat) ({ cls := "DikeWatch", name := "seep", desc := "(II)I" } : MethodName)) ∈ W0 := wm3 3 rfl rfl
theorem q3_4 : (Cond.instanceMethod ({ cls := "DikeWatch", name := "seep", desc := "(II)I" } : MethodName)) ∈ W0 := wm3 4 rfl rfl
theorem q3_5 : (Cond.selects "DikeWatch" ({ cls := "DikeWatch", name := "seep", desc := "(II)I" } : MethodName) ({ cls := "DikeWatch", name := "seep", desc := "(II)I" } : MethodName)) ∈ W0 := wm3 5 rfl rfl
theorem q3_6 : (Cond.code ({ cls := "DikeWatch", name := "seep", desc := "(II)I" } : MethodName) prog_1_method_7_code (3 : Nat) (Option.some ClassFile.FieldType.int)) ∈ W0 := wm3 6 rfl rfl
theorem q3_7 : (Cond.methodLink "DikeWatch" (124 : Nat) ({ cls := "DikeWatch$Told", name := "hasSeep", desc := "(I)Z" } : MethodName)) ∈ W0 := wm3 7 rfl rfl
theorem q3_8 : (Cond.instanceMethod ({ cls := "DikeWatch$Told", name := "hasSeep", desc := "(I)Z" } : MethodName)) ∈ W0 := wm3 8 rfl rfl
theorem q3_9 : (Cond.selects "DikeWatch$Told" ({ cls := "DikeWatch$Told", name := "hasSeep", desc := "(I)Z" } : MethodName) ({ cls := "DikeWatch$Told", name := "hasSeep", desc := "(I)Z" } : MethodName)) ∈ W0 := wm3 9 rfl rfl
theorem q3_10 : (Cond.code ({ cls := "DikeWatch$Told", name := "hasSeep", desc := "(I)Z" } : MethodName) prog_9_method_9_code (2 : Nat) (Option.some ClassFile.FieldType.boolean)) ∈ W0 := wm3 10 rfl rfl
theorem q3_11 : (Cond.methodLink "DikeWatch" (140 : Nat) ({ cls := "DikeWatch$Night", name := "isFilled", desc := "(I)Z" } : MethodName)) ∈ W0 := wm3 11 rfl rfl
theorem q3_12 : (Cond.instanceMethod ({ cls := "DikeWatch$Night", name := "isFilled", desc := "(I)Z" } : MethodName)) ∈ W0 := wm3 12 rfl rfl
theorem q3_13 : (Cond.selects "DikeWatch$Night" ({ cls := "DikeWatch$Night", name := "isFilled", desc := "(I)Z" } : MethodName) ({ cls := "DikeWatch$Night", name := "isFilled", desc := "(I)Z" } : MethodName)) ∈ W0 := wm3 13 rfl rfl
theorem q3_14 : (Cond.code ({ cls := "DikeWatch$Night", name := "isFilled", desc := "(I)Z" } : MethodName) prog_5_method_8_code (2 : Nat) (Option.some ClassFile.FieldType.boolean)) ∈ W0 := wm3 14 rfl rfl
theorem q3_16 : (Cond.static ({ cls := "DikeWatch", name := "hasBit", desc := "(II)Z" } : MethodName)) ∈ W0 := wm3 16 rfl rfl
theorem q3_17 : (Cond.code ({ cls := "DikeWatch", name := "hasBit", desc := "(II)Z" } : MethodName) prog_1_method_29_code (2 : Nat) (Option.some ClassFile.FieldType.boolean)) ∈ W0 := wm3 17 rfl rfl
theorem q3_18 : (Cond.methodLink "DikeWatchLaw" (43 : Nat) ({ cls := "DikeWatch", name := "child", desc := "(II)I" } : MethodName)) ∈ W0 := wm3 18 rfl rfl
theorem q3_19 : (Cond.instanceMethod ({ cls := "DikeWatch", name := "child", desc := "(II)I" } : MethodName)) ∈ W0 := wm3 19 rfl rfl
theorem q3_20 : (Cond.selects "DikeWatch" ({ cls := "DikeWatch", name := "child", desc := "(II)I" } : MethodName) ({ cls := "DikeWatch", name := "child", desc := "(II)I" } : MethodName)) ∈ W0 := wm3 20 rfl rfl
theorem q3_21 : (Cond.code ({ cls := "DikeWatch", name := "child", desc := "(II)I" } : MethodName) prog_1_method_8_code (3 : Nat) (Option.some ClassFile.FieldType.int)) ∈ W0 := wm3 21 rfl rfl
theorem q3_22 : (Cond.methodLink "DikeWatch" (143 : Nat) ({ cls := "DikeWatch$Told", name := "hasChild", desc := "(I)Z" } : MethodName)) ∈ W0 := wm3 22 rfl rfl
theorem q3_23 : (Cond.instanceMethod ({ cls := "DikeWatch$Told", name := "hasChild", desc := "(I)Z" } : MethodName)) ∈ W0 := wm3 23 rfl rfl
theorem q3_24 : (Cond.selects "DikeWatch$Told" ({ cls := "DikeWatch$Told", name := "hasChild", desc := "(I)Z" } : MethodName) ({ cls := "DikeWatch$Told", name := "hasChild", desc := "(I)Z" } : MethodName)) ∈ W0 := wm3 24 rfl rfl
theorem q3_25 : (Cond.code ({ cls := "DikeWatch$Told", name := "hasChild", desc := "(I)Z" } : MethodName) prog_9_method_10_code (2 : Nat) (Option.some ClassFile.FieldType.boolean)) ∈ W0 := wm3 25 rfl rfl
theorem q3_26 : (Cond.methodLink "DikeWatch" (155 : Nat) ({ cls := "DikeWatch$Night", name := "earOf", desc := "(I)I" } : MethodName)) ∈ W0 := wm3 26 rfl rfl
theorem q3_27 : (Cond.instanceMethod ({ cls := "DikeWatch$Night", name := "earOf", desc := "(I)I" } : MethodName)) ∈ W0 := wm3 27 rfl rfl
theorem q3_28 : (Cond.selects "DikeWatch$Night" ({ cls := "DikeWatch$Night", name := "earOf", desc := "(I)I" } : MethodName) ({ cls := "DikeWatch$Night", name := "earOf", desc := "(I)I" } : MethodName)) ∈ W0 := wm3 28 rfl rfl
theorem q3_29 : (Cond.code ({ cls := "DikeWatch$Night", name := "earOf", desc := "(I)I" } : MethodName) prog_5_method_11_code (3 : Nat) (Option.some ClassFile.FieldType.int)) ∈ W0 := wm3 29 rfl rfl
theorem q3_30 : (Cond.methodLink "DikeWatch$Night" (98 : Nat) ({ cls := "java/lang/Math", name := "max", desc := "(II)I" } : MethodName)) ∈ W0 := wm3 30 rfl rfl
theorem q3_31 : (Cond.static ({ cls := "java/lang/Math", name := "max", desc := "(II)I" } : MethodName)) ∈ W0 := wm3 31 rfl rfl
theorem q3_32 : (Cond.code ({ cls := "java/lang/Math", name := "max", desc := "(II)I" } : MethodName) prog_13_method_65_code (2 : Nat) (Option.some ClassFile.FieldType.int)) ∈ W0 := wm3 32 rfl rfl
theorem q3_33 : (Cond.methodLink "DikeWatch" (158 : Nat) ({ cls := "DikeWatch$Night", name := "goesToLesser", desc := "(I)Z" } : MethodName)) ∈ W0 := wm3 33 rfl rfl
theorem q3_34 : (Cond.instanceMethod ({ cls := "DikeWatch$Night", name := "goesToLesser", desc := "(I)Z" } : MethodName)) ∈ W0 := wm3 34 rfl rfl
theorem q3_35 : (Cond.selects "DikeWatch$Night" ({ cls := "DikeWatch$Night", name := "goesToLesser", desc := "(I)Z" } : MethodName) ({ cls := "DikeWatch$Night", name := "goesToLesser", desc := "(I)Z" } : MethodName)) ∈ W0 := wm3 35 rfl rfl
theorem q3_36 : (Cond.code ({ cls := "DikeWatch$Night", name := "goesToLesser", desc := "(I)Z" } : MethodName) prog_5_method_7_code (2 : Nat) (Option.some ClassFile.FieldType.boolean)) ∈ W0 := wm3 36 rfl rfl
theorem q3_37 : (Cond.methodLink "DikeWatch" (164 : Nat) ({ cls := "DikeWatch$Night", name := "toldBy", desc := "(I)I" } : MethodName)) ∈ W0 := wm3 37 rfl rfl
theorem q3_38 : (Cond.instanceMethod ({ cls := "DikeWatch$Night", name := "toldBy", desc := "(I)I" } : MethodName)) ∈ W0 := wm3 38 rfl rfl
theorem q3_39 : (Cond.selects "DikeWatch$Night" ({ cls := "DikeWatch$Night", name := "toldBy", desc := "(I)I" } : MethodName) ({ cls := "DikeWatch$Night", name := "toldBy", desc := "(I)I" } : MethodName)) ∈ W0 := wm3 39 rfl rfl
theorem q3_40 : (Cond.code ({ cls := "DikeWatch$Night", name := "toldBy", desc := "(I)I" } : MethodName) prog_5_method_14_code (5 : Nat) (Option.some ClassFile.FieldType.int)) ∈ W0 := wm3 40 rfl rfl
theorem q3_41 : (Cond.methodLink "DikeWatch$Night" (115 : Nat) ({ cls := "DikeWatch$Night", name := "heardBy", desc := "(I)I" } : MethodName)) ∈ W0 := wm3 41 rfl rfl
theorem q3_42 : (Cond.instanceMethod ({ cls := "DikeWatch$Night", name := "heardBy", desc := "(I)I" } : MethodName)) ∈ W0 := wm3 42 rfl rfl
theorem q3_43 : (Cond.selects "DikeWatch$Night" ({ cls := "DikeWatch$Night", name := "heardBy", desc := "(I)I" } : MethodName) ({ cls := "DikeWatch$Night", name := "heardBy", desc := "(I)I" } : MethodName)) ∈ W0 := wm3 43 rfl rfl
theorem q3_44 : (Cond.code ({ cls := "DikeWatch$Night", name := "heardBy", desc := "(I)I" } : MethodName) prog_5_method_13_code (3 : Nat) (Option.some ClassFile.FieldType.int)) ∈ W0 := wm3 44 rfl rfl
theorem q3_45 : (Cond.methodLink "DikeWatch$Night" (108 : Nat) ({ cls := "DikeWatch$Night", name := "earOf", desc := "(I)I" } : MethodName)) ∈ W0 := wm3 45 rfl rfl
theorem q3_46 : (Cond.methodLink "DikeWatch$Night" (112 : Nat) ({ cls := "DikeWatch$Night", name := "heardFrom", desc := "(II)I" } : MethodName)) ∈ W0 := wm3 46 rfl rfl
theorem q3_47 : (Cond.instanceMethod ({ cls := "DikeWatch$Night", name := "heardFrom", desc := "(II)I" } : MethodName)) ∈ W0 := wm3 47 rfl rfl
theorem q3_48 : (Cond.selects "DikeWatch$Night" ({ cls := "DikeWatch$Night", name := "heardFrom", desc := "(II)I" } : MethodName) ({ cls := "DikeWatch$Night", name := "heardFrom", desc := "(II)I" } : MethodName)) ∈ W0 := wm3 48 rfl rfl
theorem q3_49 : (Cond.code ({ cls := "DikeWatch$Night", name := "heardFrom", desc := "(II)I" } : MethodName) prog_5_method_12_code (5 : Nat) (Option.some ClassFile.FieldType.int)) ∈ W0 := wm3 49 rfl rfl
theorem q3_50 : (Cond.methodLink "DikeWatch$Night" (68 : Nat) ({ cls := "DikeWatch$Night", name := "isFilled", desc := "(I)Z" } : MethodName)) ∈ W0 := wm3 50 rfl rfl
theorem q3_52 : (Cond.static ({ cls := "DikeWatch", name := "reaches", desc := "(III)Z" } : MethodName)) ∈ W0 := wm3 52 rfl rfl
theorem q3_53 : (Cond.code ({ cls := "DikeWatch", name := "reaches", desc := "(III)Z" } : MethodName) prog_1_method_31_code (3 : Nat) (Option.some ClassFile.FieldType.boolean)) ∈ W0 := wm3 53 rfl rfl
theorem q3_54 : (Cond.methodLink "DikeWatch" (282 : Nat) ({ cls := "java/lang/Math", name := "abs", desc := "(I)I" } : MethodName)) ∈ W0 := wm3 54 rfl rfl
theorem q3_55 : (Cond.static ({ cls := "java/lang/Math", name := "abs", desc := "(I)I" } : MethodName)) ∈ W0 := wm3 55 rfl rfl
theorem q3_56 : (Cond.code ({ cls := "java/lang/Math", name := "abs", desc := "(I)I" } : MethodName) prog_13_method_59_code (1 : Nat) (Option.some ClassFile.FieldType.int)) ∈ W0 := wm3 56 rfl rfl
theorem q3_57 : (Cond.methodLink "DikeWatch$Night" (118 : Nat) ({ cls := "DikeWatch$Night", name := "isNearer", desc := "(III)Z" } : MethodName)) ∈ W0 := wm3 57 rfl rfl
theorem q3_58 : (Cond.static ({ cls := "DikeWatch$Night", name := "isNearer", desc := "(III)Z" } : MethodName)) ∈ W0 := wm3 58 rfl rfl
theorem q3_59 : (Cond.code ({ cls := "DikeWatch$Night", name := "isNearer", desc := "(III)Z" } : MethodName) prog_5_method_15_code (4 : Nat) (Option.some ClassFile.FieldType.boolean)) ∈ W0 := wm3 59 rfl rfl
theorem q3_60 : (Cond.methodLink "DikeWatch$Night" (121 : Nat) ({ cls := "java/lang/Math", name := "abs", desc := "(I)I" } : MethodName)) ∈ W0 := wm3 60 rfl rfl
theorem q3_61 : (Cond.methodLink "DikeWatch$Night" (124 : Nat) ({ cls := "java/lang/Integer", name := "compare", desc := "(II)I" } : MethodName)) ∈ W0 := wm3 61 rfl rfl
theorem q3_62 : (Cond.static ({ cls := "java/lang/Integer", name := "compare", desc := "(II)I" } : MethodName)) ∈ W0 := wm3 62 rfl rfl
theorem q3_63 : (Cond.code ({ cls := "java/lang/Integer", name := "compare", desc := "(II)I" } : MethodName) prog_12_method_40_code (2 : Nat) (Option.some ClassFile.FieldType.int)) ∈ W0 := wm3 63 rfl rfl
theorem q3_64 : (Cond.methodLink "DikeWatchLaw" (47 : Nat) ({ cls := "DikeWatch", name := "as", desc := "(II)I" } : MethodName)) ∈ W0 := wm3 64 rfl rfl
theorem q3_65 : (Cond.instanceMethod ({ cls := "DikeWatch", name := "as", desc := "(II)I" } : MethodName)) ∈ W0 := wm3 65 rfl rfl
theorem q3_66 : (Cond.selects "DikeWatch" ({ cls := "DikeWatch", name := "as", desc := "(II)I" } : MethodName) ({ cls := "DikeWatch", name := "as", desc := "(II)I" } : MethodName)) ∈ W0 := wm3 66 rfl rfl
theorem q3_67 : (Cond.code ({ cls := "DikeWatch", name := "as", desc := "(II)I" } : MethodName) prog_1_method_9_code (3 : Nat) (Option.some ClassFile.FieldType.int)) ∈ W0 := wm3 67 rfl rfl
theorem q3_68 : (Cond.methodLink "DikeWatch" (167 : Nat) ({ cls := "DikeWatch", name := "isOfKind", desc := "(II)Z" } : MethodName)) ∈ W0 := wm3 68 rfl rfl
theorem q3_69 : (Cond.static ({ cls := "DikeWatch", name := "isOfKind", desc := "(II)Z" } : MethodName)) ∈ W0 := wm3 69 rfl rfl
theorem q3_70 : (Cond.code ({ cls := "DikeWatch", name := "isOfKind", desc := "(II)Z" } : MethodName) prog_1_method_32_code (2 : Nat) (Option.some ClassFile.FieldType.boolean)) ∈ W0 := wm3 70 rfl rfl
theorem q3_71 : (Cond.methodLink "DikeWatch" (171 : Nat) ({ cls := "DikeWatch$Night", name := "heardBy", desc := "(I)I" } : MethodName)) ∈ W0 := wm3 71 rfl rfl
theorem q3_72 : (Cond.methodLink "DikeWatchLaw" (51 : Nat) ({ cls := "DikeWatch", name := "go", desc := "(I)I" } : MethodName)) ∈ W0 := wm3 72 rfl rfl
theorem q3_73 : (Cond.instanceMethod ({ cls := "DikeWatch", name := "go", desc := "(I)I" } : MethodName)) ∈ W0 := wm3 73 rfl rfl
theorem q3_74 : (Cond.selects "DikeWatch" ({ cls := "DikeWatch", name := "go", desc := "(I)I" } : MethodName) ({ cls := "DikeWatch", name := "go", desc := "(I)I" } : MethodName)) ∈ W0 := wm3 74 rfl rfl
theorem q3_75 : (Cond.code ({ cls := "DikeWatch", name := "go", desc := "(I)I" } : MethodName) prog_1_method_10_code (2 : Nat) (Option.some ClassFile.FieldType.int)) ∈ W0 := wm3 75 rfl rfl
theorem q3_76 : (Cond.methodLink "DikeWatch" (177 : Nat) ({ cls := "DikeWatch$Night", name := "passHours", desc := "(I)V" } : MethodName)) ∈ W0 := wm3 76 rfl rfl
theorem q3_77 : (Cond.instanceMethod ({ cls := "DikeWatch$Night", name := "passHours", desc := "(I)V" } : MethodName)) ∈ W0 := wm3 77 rfl rfl
theorem q3_78 : (Cond.selects "DikeWatch$Night" ({ cls := "DikeWatch$Night", name := "passHours", desc := "(I)V" } : MethodName) ({ cls := "DikeWatch$Night", name := "passHours", desc := "(I)V" } : MethodName)) ∈ W0 := wm3 78 rfl rfl
theorem q3_79 : (Cond.code ({ cls := "DikeWatch$Night", name := "passHours", desc := "(I)V" } : MethodName) prog_5_method_4_code (4 : Nat) (Option.none : Option ClassFile.FieldType)) ∈ W0 := wm3 79 rfl rfl
theorem q3_80 : (Cond.methodLink "DikeWatch$Night" (55 : Nat) ({ cls := "DikeWatch$Night", name := "growSeeps", desc := "()V" } : MethodName)) ∈ W0 := wm3 80 rfl rfl
theorem q3_82 : (Cond.instanceMethod ({ cls := "DikeWatch$Night", name := "growSeeps", desc := "()V" } : MethodName)) ∈ W0 := wm3 82 rfl rfl
theorem q3_83 : (Cond.code ({ cls := "DikeWatch$Night", name := "growSeeps", desc := "()V" } : MethodName) prog_5_method_5_code (2 : Nat) (Option.none : Option ClassFile.FieldType)) ∈ W0 := wm3 83 rfl rfl
theorem q3_84 : (Cond.methodLink "DikeWatch$Night" (72 : Nat) ({ cls := "DikeWatch$Told", name := "grown", desc := "(III)I" } : MethodName)) ∈ W0 := wm3 84 rfl rfl
theorem q3_85 : (Cond.instanceMethod ({ cls := "DikeWatch$Told", name := "grown", desc := "(III)I" } : MethodName)) ∈ W0 := wm3 85 rfl rfl
theorem q3_86 : (Cond.selects "DikeWatch$Told" ({ cls := "DikeWatch$Told", name := "grown", desc := "(III)I" } : MethodName) ({ cls := "DikeWatch$Told", name := "grown", desc := "(III)I" } : MethodName)) ∈ W0 := wm3 86 rfl rfl
theorem q3_87 : (Cond.code ({ cls := "DikeWatch$Told", name := "grown", desc := "(III)I" } : MethodName) prog_9_method_14_code (4 : Nat) (Option.some ClassFile.FieldType.int)) ∈ W0 := wm3 87 rfl rfl
theorem q3_88 : (Cond.methodLink "DikeWatch$Told" (78 : Nat) ({ cls := "DikeWatch$Told", name := "tideAt", desc := "(I)I" } : MethodName)) ∈ W0 := wm3 88 rfl rfl
theorem q3_89 : (Cond.methodLink "DikeWatch$Told" (82 : Nat) ({ cls := "java/lang/Math", name := "min", desc := "(II)I" } : MethodName)) ∈ W0 := wm3 89 rfl rfl
theorem q3_90 : (Cond.static ({ cls := "java/lang/Math", name := "min", desc := "(II)I" } : MethodName)) ∈ W0 := wm3 90 rfl rfl
theorem q3_91 : (Cond.code ({ cls := "java/lang/Math", name := "min", desc := "(II)I" } : MethodName) prog_13_method_69_code (2 : Nat) (Option.some ClassFile.FieldType.int)) ∈ W0 := wm3 91 rfl rfl
theorem q3_92 : (Cond.methodLink "DikeWatch$Night" (61 : Nat) ({ cls := "DikeWatch$Night", name := "walk", desc := "(I)V" } : MethodName)) ∈ W0 := wm3 92 rfl rfl
theorem q3_93 : (Cond.instanceMethod ({ cls := "DikeWatch$Night", name := "walk", desc := "(I)V" } : MethodName)) ∈ W0 := wm3 93 rfl rfl
theorem q3_94 : (Cond.selects "DikeWatch$Night" ({ cls := "DikeWatch$Night", name := "walk", desc := "(I)V" } : MethodName) ({ cls := "DikeWatch$Night", name := "walk", desc := "(I)V" } : MethodName)) ∈ W0 := wm3 94 rfl rfl
theorem q3_95 : (Cond.code ({ cls := "DikeWatch$Night", name := "walk", desc := "(I)V" } : MethodName) prog_5_method_6_code (4 : Nat) (Option.none : Option ClassFile.FieldType)) ∈ W0 := wm3 95 rfl rfl
theorem q3_96 : (Cond.methodLink "DikeWatch$Night" (79 : Nat) ({ cls := "DikeWatch$Night", name := "goesToLesser", desc := "(I)Z" } : MethodName)) ∈ W0 := wm3 96 rfl rfl
theorem q3_97 : (Cond.methodLink "DikeWatchLaw" (55 : Nat) ({ cls := "DikeWatch", name := "fill", desc := "(I)I" } : MethodName)) ∈ W0 := wm3 97 rfl rfl
theorem q3_98 : (Cond.instanceMethod ({ cls := "DikeWatch", name := "fill", desc := "(I)I" } : MethodName)) ∈ W0 := wm3 98 rfl rfl
theorem q3_99 : (Cond.selects "DikeWatch" ({ cls := "DikeWatch", name := "fill", desc := "(I)I" } : MethodName) ({ cls := "DikeWatch", name := "fill", desc := "(I)I" } : MethodName)) ∈ W0 := wm3 99 rfl rfl
theorem q3_100 : (Cond.code ({ cls := "DikeWatch", name := "fill", desc := "(I)I" } : MethodName) prog_1_method_11_code (2 : Nat) (Option.some ClassFile.FieldType.int)) ∈ W0 := wm3 100 rfl rfl
theorem q3_101 : (Cond.methodLink "DikeWatch" (180 : Nat) ({ cls := "DikeWatch$Told", name := "hasYard", desc := "(I)Z" } : MethodName)) ∈ W0 := wm3 101 rfl rfl
theorem q3_102 : (Cond.instanceMethod ({ cls := "DikeWatch$Told", name := "hasYard", desc := "(I)Z" } : MethodName)) ∈ W0 := wm3 102 rfl rfl
theorem q3_103 : (Cond.selects "DikeWatch$Told" ({ cls := "DikeWatch$Told", name := "hasYard", desc := "(I)Z" } : MethodName) ({ cls := "DikeWatch$Told", name := "hasYard", desc := "(I)Z" } : MethodName)) ∈ W0 := wm3 103 rfl rfl
theorem q3_104 : (Cond.code ({ cls := "DikeWatch$Told", name := "hasYard", desc := "(I)Z" } : MethodName) prog_9_method_8_code (2 : Nat) (Option.some ClassFile.FieldType.boolean)) ∈ W0 := wm3 104 rfl rfl
theorem q3_105 : (Cond.methodLink "DikeWatch" (183 : Nat) ({ cls := "DikeWatch$Night", name := "fillAt", desc := "(I)I" } : MethodName)) ∈ W0 := wm3 105 rfl rfl
theorem q3_106 : (Cond.instanceMethod ({ cls := "DikeWatch$Night", name := "fillAt", desc := "(I)I" } : MethodName)) ∈ W0 := wm3 106 rfl rfl
theorem q3_107 : (Cond.selects "DikeWatch$Night" ({ cls := "DikeWatch$Night", name := "fillAt", desc := "(I)I" } : MethodName) ({ cls := "DikeWatch$Night", name := "fillAt", desc := "(I)I" } : MethodName)) ∈ W0 := wm3 107 rfl rfl
theorem q3_108 : (Cond.code ({ cls := "DikeWatch$Night", name := "fillAt", desc := "(I)I" } : MethodName) prog_5_method_16_code (8 : Nat) (Option.some ClassFile.FieldType.int)) ∈ W0 := wm3 108 rfl rfl
theorem q3_109 : (Cond.methodLink "DikeWatch$Night" (129 : Nat) ({ cls := "DikeWatch$Night", name := "seepsAt", desc := "(I)I" } : MethodName)) ∈ W0 := wm3 109 rfl rfl
theorem q3_110 : (Cond.instanceMethod ({ cls := "DikeWatch$Night", name := "seepsAt", desc := "(I)I" } : MethodName)) ∈ W0 := wm3 110 rfl rfl
theorem q3_111 : (Cond.selects "DikeWatch$Night" ({ cls := "DikeWatch$Night", name := "seepsAt", desc := "(I)I" } : MethodName) ({ cls := "DikeWatch$Night", name := "seepsAt", desc := "(I)I" } : MethodName)) ∈ W0 := wm3 111 rfl rfl
theorem q3_112 : (Cond.code ({ cls := "DikeWatch$Night", name := "seepsAt", desc := "(I)I" } : MethodName) prog_5_method_10_code (4 : Nat) (Option.some ClassFile.FieldType.int)) ∈ W0 := wm3 112 rfl rfl
theorem q3_113 : (Cond.methodLink "DikeWatch$Night" (132 : Nat) ({ cls := "DikeWatch$Night", name := "brokenSeeps", desc := "()I" } : MethodName)) ∈ W0 := wm3 113 rfl rfl
theorem q3_114 : (Cond.instanceMethod ({ cls := "DikeWatch$Night", name := "brokenSeeps", desc := "()I" } : MethodName)) ∈ W0 := wm3 114 rfl rfl
theorem q3_115 : (Cond.selects "DikeWatch$Night" ({ cls := "DikeWatch$Night", name := "brokenSeeps", desc := "()I" } : MethodName) ({ cls := "DikeWatch$Night", name := "brokenSeeps", desc := "()I" } : MethodName)) ∈ W0 := wm3 115 rfl rfl
theorem q3_116 : (Cond.code ({ cls := "DikeWatch$Night", name := "brokenSeeps", desc := "()I" } : MethodName) prog_5_method_9_code (3 : Nat) (Option.some ClassFile.FieldType.int)) ∈ W0 := wm3 116 rfl rfl
theorem q3_117 : (Cond.methodLink "DikeWatch$Night" (136 : Nat) ({ cls := "DikeWatch$Night", name := "toldBy", desc := "(I)I" } : MethodName)) ∈ W0 := wm3 117 rfl rfl
theorem q3_119 : (Cond.static ({ cls := "DikeWatch", name := "orangesFor", desc := "(II)I" } : MethodName)) ∈ W0 := wm3 119 rfl rfl
theorem q3_120 : (Cond.code ({ cls := "DikeWatch", name := "orangesFor", desc := "(II)I" } : MethodName) prog_1_method_33_code (2 : Nat) (Option.some ClassFile.FieldType.int)) ∈ W0 := wm3 120 rfl rfl
theorem q3_121 : (Cond.methodLink "DikeWatch" (287 : Nat) ({ cls := "java/lang/Math", name := "max", desc := "(II)I" } : MethodName)) ∈ W0 := wm3 121 rfl rfl
theorem q3_122 : (Cond.methodLink "DikeWatchLaw" (59 : Nat) ({ cls := "DikeWatch", name := "keep", desc := "(I)I" } : MethodName)) ∈ W0 := wm3 122 rfl rfl
theorem q3_123 : (Cond.instanceMethod ({ cls := "DikeWatch", name := "keep", desc := "(I)I" } : MethodName)) ∈ W0 := wm3 123 rfl rfl
theorem q3_124 : (Cond.selects "DikeWatch" ({ cls := "DikeWatch", name := "keep", desc := "(I)I" } : MethodName) ({ cls := "DikeWatch", name := "keep", desc := "(I)I" } : MethodName)) ∈ W0 := wm3 124 rfl rfl
theorem q3_125 : (Cond.code ({ cls := "DikeWatch", name := "keep", desc := "(I)I" } : MethodName) prog_1_method_12_code (2 : Nat) (Option.some ClassFile.FieldType.int)) ∈ W0 := wm3 125 rfl rfl
theorem q3_126 : (Cond.methodLink "DikeWatch" (186 : Nat) ({ cls := "DikeWatch", name := "keptNight", desc := "(I)LDikeWatch$Night;" } : MethodName)) ∈ W0 := wm3 126 rfl rfl
theorem q3_128 : (Cond.instanceMethod ({ cls := "DikeWatch", name := "keptNight", desc := "(I)LDikeWatch$Night;" } : MethodName)) ∈ W0 := wm3 128 rfl rfl
theorem q3_129 : (Cond.code ({ cls := "DikeWatch", name := "keptNight", desc := "(I)LDikeWatch$Night;" } : MethodName) prog_1_method_27_code (2 : Nat) (Option.some (ClassFile.FieldType.object "DikeWatch$Night"))) ∈ W0 := wm3 129 rfl rfl
theorem q3_130 : (Cond.methodLink "DikeWatch" (190 : Nat) ({ cls := "DikeWatch$Night", name := "copyFrom", desc := "(LDikeWatch$Night;)V" } : MethodName)) ∈ W0 := wm3 130 rfl rfl
theorem q3_131 : (Cond.instanceMethod ({ cls := "DikeWatch$Night", name := "copyFrom", desc := "(LDikeWatch$Night;)V" } : MethodName)) ∈ W0 := wm3 131 rfl rfl
theorem q3_132 : (Cond.selects "DikeWatch$Night" ({ cls := "DikeWatch$Night", name := "copyFrom", desc := "(LDikeWatch$Night;)V" } : MethodName) ({ cls := "DikeWatch$Night", name := "copyFrom", desc := "(LDikeWatch$Night;)V" } : MethodName)) ∈ W0 := wm3 132 rfl rfl
theorem q3_133 : (Cond.code ({ cls := "DikeWatch$Night", name := "copyFrom", desc := "(LDikeWatch$Night;)V" } : MethodName) prog_5_method_3_code (2 : Nat) (Option.none : Option ClassFile.FieldType)) ∈ W0 := wm3 133 rfl rfl
theorem q3_134 : (Cond.methodLink "DikeWatchLaw" (63 : Nat) ({ cls := "DikeWatch", name := "back", desc := "(I)I" } : MethodName)) ∈ W0 := wm3 134 rfl rfl
theorem q3_135 : (Cond.instanceMethod ({ cls := "DikeWatch", name := "back", desc := "(I)I" } : MethodName)) ∈ W0 := wm3 135 rfl rfl
theorem q3_136 : (Cond.selects "DikeWatch" ({ cls := "DikeWatch", name := "back", desc := "(I)I" } : MethodName) ({ cls := "DikeWatch", name := "back", desc := "(I)I" } : MethodName)) ∈ W0 := wm3 136 rfl rfl
theorem q3_137 : (Cond.code ({ cls := "DikeWatch", name := "back", desc := "(I)I" } : MethodName) prog_1_method_13_code (2 : Nat) (Option.some ClassFile.FieldType.int)) ∈ W0 := wm3 137 rfl rfl
theorem q3_138 : (Cond.methodLink "DikeWatch" (193 : Nat) ({ cls := "DikeWatch", name := "hasBit", desc := "(II)Z" } : MethodName)) ∈ W0 := wm3 138 rfl rfl
theorem q3_139 : (Cond.methodLink "DikeWatchLaw" (67 : Nat) ({ cls := "DikeWatch", name := "later", desc := "(III)I" } : MethodName)) ∈ W0 := wm3 139 rfl rfl
theorem q3_140 : (Cond.instanceMethod ({ cls := "DikeWatch", name := "later", desc := "(III)I" } : MethodName)) ∈ W0 := wm3 140 rfl rfl
theorem q3_141 : (Cond.selects "DikeWatch" ({ cls := "DikeWatch", name := "later", desc := "(III)I" } : MethodName) ({ cls := "DikeWatch", name := "later", desc := "(III)I" } : MethodName)) ∈ W0 := wm3 141 rfl rfl
theorem q3_142 : (Cond.code ({ cls := "DikeWatch", name := "later", desc := "(III)I" } : MethodName) prog_1_method_14_code (6 : Nat) (Option.some ClassFile.FieldType.int)) ∈ W0 := wm3 142 rfl rfl
theorem q3_143 : (Cond.methodLink "DikeWatch" (196 : Nat) ({ cls := "DikeWatch$Foretold", name := "nightIn", desc := "(I)LDikeWatch$Night;" } : MethodName)) ∈ W0 := wm3 143 rfl rfl
theorem q3_144 : (Cond.instanceMethod ({ cls := "DikeWatch$Foretold", name := "nightIn", desc := "(I)LDikeWatch$Night;" } : MethodName)) ∈ W0 := wm3 144 rfl rfl
theorem q3_145 : (Cond.selects "DikeWatch$Foretold" ({ cls := "DikeWatch$Foretold", name := "nightIn", desc := "(I)LDikeWatch$Night;" } : MethodName) ({ cls := "DikeWatch$Foretold", name := "nightIn", desc := "(I)LDikeWatch$Night;" } : MethodName)) ∈ W0 := wm3 145 rfl rfl
theorem q3_146 : (Cond.code ({ cls := "DikeWatch$Foretold", name := "nightIn", desc := "(I)LDikeWatch$Night;" } : MethodName) prog_3_method_2_code (2 : Nat) (Option.some (ClassFile.FieldType.object "DikeWatch$Night"))) ∈ W0 := wm3 146 rfl rfl
theorem q3_147 : (Cond.methodLink "DikeWatch$Foretold" (29 : Nat) ({ cls := "DikeWatch$Night", name := "copyFrom", desc := "(LDikeWatch$Night;)V" } : MethodName)) ∈ W0 := wm3 147 rfl rfl
theorem q3_148 : (Cond.methodLink "DikeWatch$Foretold" (35 : Nat) ({ cls := "DikeWatch$Night", name := "passHours", desc := "(I)V" } : MethodName)) ∈ W0 := wm3 148 rfl rfl
theorem q3_149 : (Cond.methodLink "DikeWatchLaw" (72 : Nat) ({ cls := "DikeWatch", name := "breaks", desc := "(I)I" } : MethodName)) ∈ W0 := wm3 149 rfl rfl
theorem q3_150 : (Cond.instanceMethod ({ cls := "DikeWatch", name := "breaks", desc := "(I)I" } : MethodName)) ∈ W0 := wm3 150 rfl rfl
theorem q3_151 : (Cond.selects "DikeWatch" ({ cls := "DikeWatch", name := "breaks", desc := "(I)I" } : MethodName) ({ cls := "DikeWatch", name := "breaks", desc := "(I)I" } : MethodName)) ∈ W0 := wm3 151 rfl rfl
theorem q3_152 : (Cond.code ({ cls := "DikeWatch", name := "breaks", desc := "(I)I" } : MethodName) prog_1_method_15_code (2 : Nat) (Option.some ClassFile.FieldType.int)) ∈ W0 := wm3 152 rfl rfl
theorem q3_153 : (Cond.methodLink "DikeWatch" (199 : Nat) ({ cls := "DikeWatch$Foretold", name := "hoursToBreak", desc := "(I)I" } : MethodName)) ∈ W0 := wm3 153 rfl rfl
theorem q3_154 : (Cond.instanceMethod ({ cls := "DikeWatch$Foretold", name := "hoursToBreak", desc := "(I)I" } : MethodName)) ∈ W0 := wm3 154 rfl rfl
theorem q3_155 : (Cond.selects "DikeWatch$Foretold" ({ cls := "DikeWatch$Foretold", name := "hoursToBreak", desc := "(I)I" } : MethodName) ({ cls := "DikeWatch$Foretold", name := "hoursToBreak", desc := "(I)I" } : MethodName)) ∈ W0 := wm3 155 rfl rfl
theorem q3_156 : (Cond.code ({ cls := "DikeWatch$Foretold", name := "hoursToBreak", desc := "(I)I" } : MethodName) prog_3_method_3_code (4 : Nat) (Option.some ClassFile.FieldType.int)) ∈ W0 := wm3 156 rfl rfl
theorem q3_157 : (Cond.methodLink "DikeWatch$Foretold" (46 : Nat) ({ cls := "DikeWatch$Told", name := "grown", desc := "(III)I" } : MethodName)) ∈ W0 := wm3 157 rfl rfl
theorem q3_158 : (Cond.methodLink "DikeWatchLaw" (76 : Nat) ({ cls := "DikeWatch", name := "missed", desc := "(I)I" } : MethodName)) ∈ W0 := wm3 158 rfl rfl
theorem q3_159 : (Cond.instanceMethod ({ cls := "DikeWatch", name := "missed", desc := "(I)I" } : MethodName)) ∈ W0 := wm3 159 rfl rfl
theorem q3_160 : (Cond.selects "DikeWatch" ({ cls := "DikeWatch", name := "missed", desc := "(I)I" } : MethodName) ({ cls := "DikeWatch", name := "missed", desc := "(I)I" } : MethodName)) ∈ W0 := wm3 160 rfl rfl
theorem q3_161 : (Cond.code ({ cls := "DikeWatch", name := "missed", desc := "(I)I" } : MethodName) prog_1_method_16_code (2 : Nat) (Option.some ClassFile.FieldType.int)) ∈ W0 := wm3 161 rfl rfl
theorem q3_162 : (Cond.methodLink "DikeWatch" (202 : Nat) ({ cls := "DikeWatch$Told", name := "hasChildren", desc := "(I)Z" } : MethodName)) ∈ W0 := wm3 162 rfl rfl
theorem q3_163 : (Cond.instanceMethod ({ cls := "DikeWatch$Told", name := "hasChildren", desc := "(I)Z" } : MethodName)) ∈ W0 := wm3 163 rfl rfl
theorem q3_164 : (Cond.selects "DikeWatch$Told" ({ cls := "DikeWatch$Told", name := "hasChildren", desc := "(I)Z" } : MethodName) ({ cls := "DikeWatch$Told", name := "hasChildren", desc := "(I)Z" } : MethodName)) ∈ W0 := wm3 164 rfl rfl
theorem q3_165 : (Cond.code ({ cls := "DikeWatch$Told", name := "hasChildren", desc := "(I)Z" } : MethodName) prog_9_method_12_code (2 : Nat) (Option.some ClassFile.FieldType.boolean)) ∈ W0 := wm3 165 rfl rfl
theorem q3_167 : (Cond.static ({ cls := "DikeWatch", name := "isSetOf", desc := "(II)Z" } : MethodName)) ∈ W0 := wm3 167 rfl rfl
theorem q3_168 : (Cond.code ({ cls := "DikeWatch", name := "isSetOf", desc := "(II)Z" } : MethodName) prog_1_method_30_code (2 : Nat) (Option.some ClassFile.FieldType.boolean)) ∈ W0 := wm3 168 rfl rfl
theorem q3_169 : (Cond.methodLink "DikeWatch" (205 : Nat) ({ cls := "DikeWatch$Foretold", name := "missedBy", desc := "(I)I" } : MethodName)) ∈ W0 := wm3 169 rfl rfl
theorem q3_170 : (Cond.instanceMethod ({ cls := "DikeWatch$Foretold", name := "missedBy", desc := "(I)I" } : MethodName)) ∈ W0 := wm3 170 rfl rfl
theorem q3_171 : (Cond.selects "DikeWatch$Foretold" ({ cls := "DikeWatch$Foretold", name := "missedBy", desc := "(I)I" } : MethodName) ({ cls := "DikeWatch$Foretold", name := "missedBy", desc := "(I)I" } : MethodName)) ∈ W0 := wm3 171 rfl rfl
theorem q3_172 : (Cond.code ({ cls := "DikeWatch$Foretold", name := "missedBy", desc := "(I)I" } : MethodName) prog_3_method_8_code (4 : Nat) (Option.some ClassFile.FieldType.int)) ∈ W0 := wm3 172 rfl rfl
theorem q3_173 : (Cond.methodLink "DikeWatch$Foretold" (85 : Nat) ({ cls := "DikeWatch$Foretold", name := "findBreaking", desc := "()I" } : MethodName)) ∈ W0 := wm3 173 rfl rfl
theorem q3_175 : (Cond.instanceMethod ({ cls := "DikeWatch$Foretold", name := "findBreaking", desc := "()I" } : MethodName)) ∈ W0 := wm3 175 rfl rfl
theorem q3_176 : (Cond.code ({ cls := "DikeWatch$Foretold", name := "findBreaking", desc := "()I" } : MethodName) prog_3_method_4_code (3 : Nat) (Option.some ClassFile.FieldType.int)) ∈ W0 := wm3 176 rfl rfl
theorem q3_177 : (Cond.methodLink "DikeWatch$Foretold" (55 : Nat) ({ cls := "DikeWatch$Night", name := "isFilled", desc := "(I)Z" } : MethodName)) ∈ W0 := wm3 177 rfl rfl
theorem q3_178 : (Cond.methodLink "DikeWatch$Foretold" (59 : Nat) ({ cls := "DikeWatch$Foretold", name := "hoursToBreak", desc := "(I)I" } : MethodName)) ∈ W0 := wm3 178 rfl rfl
theorem q3_180 : (Cond.methodLink "DikeWatch$Foretold" (92 : Nat) ({ cls := "DikeWatch$Foretold", name := "findHeardInTime", desc := "(II)I" } : MethodName)) ∈ W0 := wm3 180 rfl rfl
theorem q3_182 : (Cond.instanceMethod ({ cls := "DikeWatch$Foretold", name := "findHeardInTime", desc := "(II)I" } : MethodName)) ∈ W0 := wm3 182 rfl rfl
theorem q3_183 : (Cond.code ({ cls := "DikeWatch$Foretold", name := "findHeardInTime", desc := "(II)I" } : MethodName) prog_3_method_6_code (6 : Nat) (Option.some ClassFile.FieldType.int)) ∈ W0 := wm3 183 rfl rfl
theorem q3_184 : (Cond.methodLink "DikeWatch$Foretold" (73 : Nat) ({ cls := "DikeWatch$Foretold", name := "lastBreakHour", desc := "(I)I" } : MethodName)) ∈ W0 := wm3 184 rfl rfl
theorem q3_186 : (Cond.instanceMethod ({ cls := "DikeWatch$Foretold", name := "lastBreakHour", desc := "(I)I" } : MethodName)) ∈ W0 := wm3 186 rfl rfl
theorem q3_187 : (Cond.code ({ cls := "DikeWatch$Foretold", name := "lastBreakHour", desc := "(I)I" } : MethodName) prog_3_method_5_code (4 : Nat) (Option.some ClassFile.FieldType.int)) ∈ W0 := wm3 187 rfl rfl
theorem q3_188 : (Cond.methodLink "DikeWatch$Foretold" (67 : Nat) ({ cls := "java/lang/Math", name := "max", desc := "(II)I" } : MethodName)) ∈ W0 := wm3 188 rfl rfl
theorem q3_189 : (Cond.methodLink "DikeWatch$Foretold" (76 : Nat) ({ cls := "DikeWatch$Night", name := "heardBy", desc := "(I)I" } : MethodName)) ∈ W0 := wm3 189 rfl rfl
theorem q3_190 : (Cond.methodLink "DikeWatch$Foretold" (79 : Nat) ({ cls := "DikeWatch$Foretold", name := "unbrokenIn", desc := "(II)I" } : MethodName)) ∈ W0 := wm3 190 rfl rfl
theorem q3_192 : (Cond.instanceMethod ({ cls := "DikeWatch$Foretold", name := "unbrokenIn", desc := "(II)I" } : MethodName)) ∈ W0 := wm3 192 rfl rfl
theorem q3_193 : (Cond.code ({ cls := "DikeWatch$Foretold", name := "unbrokenIn", desc := "(II)I" } : MethodName) prog_3_method_7_code (5 : Nat) (Option.some ClassFile.FieldType.int)) ∈ W0 := wm3 193 rfl rfl
theorem q3_194 : (Cond.methodLink "DikeWatch$Foretold" (82 : Nat) ({ cls := "DikeWatch$Night", name := "walk", desc := "(I)V" } : MethodName)) ∈ W0 := wm3 194 rfl rfl
theorem q3_195 : (Cond.methodLink "DikeWatchLaw" (80 : Nat) ({ cls := "DikeWatch", name := "watch", desc := "(I)I" } : MethodName)) ∈ W0 := wm3 195 rfl rfl
theorem q3_196 : (Cond.instanceMethod ({ cls := "DikeWatch", name := "watch", desc := "(I)I" } : MethodName)) ∈ W0 := wm3 196 rfl rfl
theorem q3_197 : (Cond.selects "DikeWatch" ({ cls := "DikeWatch", name := "watch", desc := "(I)I" } : MethodName) ({ cls := "DikeWatch", name := "watch", desc := "(I)I" } : MethodName)) ∈ W0 := wm3 197 rfl rfl
theorem q3_198 : (Cond.code ({ cls := "DikeWatch", name := "watch", desc := "(I)I" } : MethodName) prog_1_method_17_code (3 : Nat) (Option.some ClassFile.FieldType.int)) ∈ W0 := wm3 198 rfl rfl
theorem q3_199 : (Cond.methodLink "DikeWatch" (208 : Nat) ({ cls := "DikeWatch$Foretold", name := "leastWatch", desc := "()I" } : MethodName)) ∈ W0 := wm3 199 rfl rfl
theorem q3_200 : (Cond.instanceMethod ({ cls := "DikeWatch$Foretold", name := "leastWatch", desc := "()I" } : MethodName)) ∈ W0 := wm3 200 rfl rfl
theorem q3_201 : (Cond.selects "DikeWatch$Foretold" ({ cls := "DikeWatch$Foretold", name := "leastWatch", desc := "()I" } : MethodName) ({ cls := "DikeWatch$Foretold", name := "leastWatch", desc := "()I" } : MethodName)) ∈ W0 := wm3 201 rfl rfl
theorem q3_202 : (Cond.code ({ cls := "DikeWatch$Foretold", name := "leastWatch", desc := "()I" } : MethodName) prog_3_method_9_code (5 : Nat) (Option.some ClassFile.FieldType.int)) ∈ W0 := wm3 202 rfl rfl
theorem q3_203 : (Cond.methodLink "DikeWatch$Foretold" (95 : Nat) ({ cls := "java/lang/Integer", name := "bitCount", desc := "(I)I" } : MethodName)) ∈ W0 := wm3 203 rfl rfl
theorem q3_204 : (Cond.static ({ cls := "java/lang/Integer", name := "bitCount", desc := "(I)I" } : MethodName)) ∈ W0 := wm3 204 rfl rfl
theorem q3_205 : (Cond.code ({ cls := "java/lang/Integer", name := "bitCount", desc := "(I)I" } : MethodName) prog_12_method_49_code (1 : Nat) (Option.some ClassFile.FieldType.int)) ∈ W0 := wm3 205 rfl rfl
theorem q3_206 : (Cond.constant "java/lang/Integer" (265 : Nat) (1431655765 : Int32)) ∈ W0 := wm3 206 rfl rfl
theorem q3_207 : (Cond.constant "java/lang/Integer" (266 : Nat) (858993459 : Int32)) ∈ W0 := wm3 207 rfl rfl
theorem q3_208 : (Cond.constant "java/lang/Integer" (267 : Nat) (252645135 : Int32)) ∈ W0 := wm3 208 rfl rfl
theorem q3_209 : (Cond.methodLink "DikeWatch$Foretold" (100 : Nat) ({ cls := "DikeWatch$Foretold", name := "heardTogether", desc := "(I)I" } : MethodName)) ∈ W0 := wm3 209 rfl rfl
theorem q3_211 : (Cond.instanceMethod ({ cls := "DikeWatch$Foretold", name := "heardTogether", desc := "(I)I" } : MethodName)) ∈ W0 := wm3 211 rfl rfl
theorem q3_212 : (Cond.code ({ cls := "DikeWatch$Foretold", name := "heardTogether", desc := "(I)I" } : MethodName) prog_3_method_10_code (4 : Nat) (Option.some ClassFile.FieldType.int)) ∈ W0 := wm3 212 rfl rfl
theorem q3_213 : (Cond.methodLink "DikeWatch" (211 : Nat) ({ cls := "java/lang/Integer", name := "bitCount", desc := "(I)I" } : MethodName)) ∈ W0 := wm3 213 rfl rfl
theorem q3_214 : (Cond.methodLink "DikeWatchLaw" (84 : Nat) ({ cls := "DikeWatch", name := "order", desc := "(III)I" } : MethodName)) ∈ W0 := wm3 214 rfl rfl
theorem q3_215 : (Cond.instanceMethod ({ cls := "DikeWatch", name := "order", desc := "(III)I" } : MethodName)) ∈ W0 := wm3 215 rfl rfl
theorem q3_216 : (Cond.selects "DikeWatch" ({ cls := "DikeWatch", name := "order", desc := "(III)I" } : MethodName) ({ cls := "DikeWatch", name := "order", desc := "(III)I" } : MethodName)) ∈ W0 := wm3 216 rfl rfl
theorem q3_217 : (Cond.code ({ cls := "DikeWatch", name := "order", desc := "(III)I" } : MethodName) prog_1_method_18_code (4 : Nat) (Option.some ClassFile.FieldType.int)) ∈ W0 := wm3 217 rfl rfl
theorem q3_218 : (Cond.methodLink "DikeWatch" (216 : Nat) ({ cls := "DikeWatch$Told", name := "hasSeeps", desc := "(I)Z" } : MethodName)) ∈ W0 := wm3 218 rfl rfl
theorem q3_219 : (Cond.instanceMethod ({ cls := "DikeWatch$Told", name := "hasSeeps", desc := "(I)Z" } : MethodName)) ∈ W0 := wm3 219 rfl rfl
theorem q3_220 : (Cond.selects "DikeWatch$Told" ({ cls := "DikeWatch$Told", name := "hasSeeps", desc := "(I)Z" } : MethodName) ({ cls := "DikeWatch$Told", name := "hasSeeps", desc := "(I)Z" } : MethodName)) ∈ W0 := wm3 220 rfl rfl
theorem q3_221 : (Cond.code ({ cls := "DikeWatch$Told", name := "hasSeeps", desc := "(I)Z" } : MethodName) prog_9_method_11_code (2 : Nat) (Option.some ClassFile.FieldType.boolean)) ∈ W0 := wm3 221 rfl rfl
theorem q3_222 : (Cond.methodLink "DikeWatch" (222 : Nat) ({ cls := "DikeWatch$Men", name := "findBestRow", desc := "(II)V" } : MethodName)) ∈ W0 := wm3 222 rfl rfl
theorem q3_223 : (Cond.instanceMethod ({ cls := "DikeWatch$Men", name := "findBestRow", desc := "(II)V" } : MethodName)) ∈ W0 := wm3 223 rfl rfl
theorem q3_224 : (Cond.selects "DikeWatch$Men" ({ cls := "DikeWatch$Men", name := "findBestRow", desc := "(II)V" } : MethodName) ({ cls := "DikeWatch$Men", name := "findBestRow", desc := "(II)V" } : MethodName)) ∈ W0 := wm3 224 rfl rfl
theorem q3_225 : (Cond.code ({ cls := "DikeWatch$Men", name := "findBestRow", desc := "(II)V" } : MethodName) prog_4_method_3_code (6 : Nat) (Option.none : Option ClassFile.FieldType)) ∈ W0 := wm3 225 rfl rfl
theorem q3_226 : (Cond.methodLink "DikeWatch$Men" (36 : Nat) ({ cls := "DikeWatch$Men", name := "layFirstRow", desc := "(I)V" } : MethodName)) ∈ W0 := wm3 226 rfl rfl
theorem q3_228 : (Cond.instanceMethod ({ cls := "DikeWatch$Men", name := "layFirstRow", desc := "(I)V" } : MethodName)) ∈ W0 := wm3 228 rfl rfl
theorem q3_229 : (Cond.code ({ cls := "DikeWatch$Men", name := "layFirstRow", desc := "(I)V" } : MethodName) prog_4_method_4_code (3 : Nat) (Option.none : Option ClassFile.FieldType)) ∈ W0 := wm3 229 rfl rfl
theorem q3_231 : (Cond.methodLink "DikeWatch$Men" (63 : Nat) ({ cls := "DikeWatch$Foretold", name := "hoursToBreak", desc := "(I)I" } : MethodName)) ∈ W0 := wm3 231 rfl rfl
theorem q3_232 : (Cond.methodLink "DikeWatch$Men" (40 : Nat) ({ cls := "DikeWatch$Men", name := "lostByRow", desc := "(I)I" } : MethodName)) ∈ W0 := wm3 232 rfl rfl
theorem q3_234 : (Cond.instanceMethod ({ cls := "DikeWatch$Men", name := "lostByRow", desc := "(I)I" } : MethodName)) ∈ W0 := wm3 234 rfl rfl
theorem q3_235 : (Cond.code ({ cls := "DikeWatch$Men", name := "lostByRow", desc := "(I)I" } : MethodName) prog_4_method_5_code (7 : Nat) (Option.some ClassFile.FieldType.int)) ∈ W0 := wm3 235 rfl rfl
theorem q3_236 : (Cond.methodLink "DikeWatch$Men" (71 : Nat) ({ cls := "java/lang/Math", name := "abs", desc := "(I)I" } : MethodName)) ∈ W0 := wm3 236 rfl rfl
theorem q3_237 : (Cond.methodLink "DikeWatch$Men" (44 : Nat) ({ cls := "java/lang/System", name := "arraycopy", desc := "(Ljava/lang/Object;ILjava/lang/Object;II)V" } : MethodName)) ∈ W0 := wm3 237 rfl rfl
theorem q3_238 : (Cond.methodLink "DikeWatch$Men" (50 : Nat) ({ cls := "DikeWatch$Men", name := "layNextRow", desc := "()Z" } : MethodName)) ∈ W0 := wm3 238 rfl rfl
theorem q4_0 : (Cond.instanceMethod ({ cls := "DikeWatch$Men", name := "layNextRow", desc := "()Z" } : MethodName)) ∈ W0 := wm4 0 rfl rfl
theorem q4_1 : (Cond.code ({ cls := "DikeWatch$Men", name := "layNextRow", desc := "()Z" } : MethodName) prog_4_method_6_code (5 : Nat) (Option.some ClassFile.FieldType.boolean)) ∈ W0 := wm4 1 rfl rfl
theorem q4_2 : (Cond.methodLink "DikeWatch$Men" (76 : Nat) ({ cls := "DikeWatch$Men", name := "swap", desc := "(II)V" } : MethodName)) ∈ W0 := wm4 2 rfl rfl
theorem q4_4 : (Cond.instanceMethod ({ cls := "DikeWatch$Men", name := "swap", desc := "(II)V" } : MethodName)) ∈ W0 := wm4 4 rfl rfl
theorem q4_5 : (Cond.code ({ cls := "DikeWatch$Men", name := "swap", desc := "(II)V" } : MethodName) prog_4_method_7_code (4 : Nat) (Option.none : Option ClassFile.FieldType)) ∈ W0 := wm4 5 rfl rfl
theorem q4_6 : (Cond.methodLink "DikeWatch" (229 : Nat) ({ cls := "DikeWatch$Men", name := "bestAt", desc := "(I)I" } : MethodName)) ∈ W0 := wm4 6 rfl rfl
theorem q4_7 : (Cond.instanceMethod ({ cls := "DikeWatch$Men", name := "bestAt", desc := "(I)I" } : MethodName)) ∈ W0 := wm4 7 rfl rfl
theorem q4_8 : (Cond.selects "DikeWatch$Men" ({ cls := "DikeWatch$Men", name := "bestAt", desc := "(I)I" } : MethodName) ({ cls := "DikeWatch$Men", name := "bestAt", desc := "(I)I" } : MethodName)) ∈ W0 := wm4 8 rfl rfl
theorem q4_9 : (Cond.code ({ cls := "DikeWatch$Men", name := "bestAt", desc := "(I)I" } : MethodName) prog_4_method_2_code (2 : Nat) (Option.some ClassFile.FieldType.int)) ∈ W0 := wm4 9 rfl rfl
theorem q4_10 : (Cond.methodLink "DikeWatchLaw" (88 : Nat) ({ cls := "DikeWatch", name := "storms", desc := "(IIII)J" } : MethodName)) ∈ W0 := wm4 10 rfl rfl
theorem q4_11 : (Cond.instanceMethod ({ cls := "DikeWatch", name := "storms", desc := "(IIII)J" } : MethodName)) ∈ W0 := wm4 11 rfl rfl
theorem q4_12 : (Cond.selects "DikeWatch" ({ cls := "DikeWatch", name := "storms", desc := "(IIII)J" } : MethodName) ({ cls := "DikeWatch", name := "storms", desc := "(IIII)J" } : MethodName)) ∈ W0 := wm4 12 rfl rfl
theorem q4_13 : (Cond.code ({ cls := "DikeWatch", name := "storms", desc := "(IIII)J" } : MethodName) prog_1_method_19_code (5 : Nat) (Option.some ClassFile.FieldType.long)) ∈ W0 := wm4 13 rfl rfl
theorem q4_14 : (Cond.constantLong "DikeWatch" (232 : Nat) (-2 : Int64)) ∈ W0 := wm4 14 rfl rfl
theorem q4_15 : (Cond.constantLong "DikeWatch" (234 : Nat) (-3 : Int64)) ∈ W0 := wm4 15 rfl rfl
theorem q4_16 : (Cond.constantLong "DikeWatch" (236 : Nat) (-4 : Int64)) ∈ W0 := wm4 16 rfl rfl
theorem q4_17 : (Cond.methodLink "DikeWatch" (238 : Nat) ({ cls := "DikeWatch", name := "growthsToBreak", desc := "(II)I" } : MethodName)) ∈ W0 := wm4 17 rfl rfl
theorem q4_18 : (Cond.static ({ cls := "DikeWatch", name := "growthsToBreak", desc := "(II)I" } : MethodName)) ∈ W0 := wm4 18 rfl rfl
theorem q4_19 : (Cond.code ({ cls := "DikeWatch", name := "growthsToBreak", desc := "(II)I" } : MethodName) prog_1_method_34_code (2 : Nat) (Option.some ClassFile.FieldType.int)) ∈ W0 := wm4 19 rfl rfl
theorem q4_20 : (Cond.methodLink "DikeWatch" (242 : Nat) ({ cls := "DikeWatch$Storms", name := "reckon", desc := "(III)V" } : MethodName)) ∈ W0 := wm4 20 rfl rfl
theorem q4_21 : (Cond.instanceMethod ({ cls := "DikeWatch$Storms", name := "reckon", desc := "(III)V" } : MethodName)) ∈ W0 := wm4 21 rfl rfl
theorem q4_22 : (Cond.selects "DikeWatch$Storms" ({ cls := "DikeWatch$Storms", name := "reckon", desc := "(III)V" } : MethodName) ({ cls := "DikeWatch$Storms", name := "reckon", desc := "(III)V" } : MethodName)) ∈ W0 := wm4 22 rfl rfl
theorem q4_23 : (Cond.code ({ cls := "DikeWatch$Storms", name := "reckon", desc := "(III)V" } : MethodName) prog_7_method_2_code (5 : Nat) (Option.none : Option ClassFile.FieldType)) ∈ W0 := wm4 23 rfl rfl
theorem q4_24 : (Cond.methodLink "DikeWatch$Storms" (22 : Nat) ({ cls := "DikeWatch$Storms", name := "countWays", desc := "(II)V" } : MethodName)) ∈ W0 := wm4 24 rfl rfl
theorem q4_26 : (Cond.instanceMethod ({ cls := "DikeWatch$Storms", name := "countWays", desc := "(II)V" } : MethodName)) ∈ W0 := wm4 26 rfl rfl
theorem q4_27 : (Cond.code ({ cls := "DikeWatch$Storms", name := "countWays", desc := "(II)V" } : MethodName) prog_7_method_3_code (5 : Nat) (Option.none : Option ClassFile.FieldType)) ∈ W0 := wm4 27 rfl rfl
theorem q4_28 : (Cond.methodLink "DikeWatch$Storms" (32 : Nat) ({ cls := "java/util/Arrays", name := "fill", desc := "([JJ)V" } : MethodName)) ∈ W0 := wm4 28 rfl rfl
theorem q4_29 : (Cond.static ({ cls := "java/util/Arrays", name := "fill", desc := "([JJ)V" } : MethodName)) ∈ W0 := wm4 29 rfl rfl
theorem q4_30 : (Cond.code ({ cls := "java/util/Arrays", name := "fill", desc := "([JJ)V" } : MethodName) prog_18_method_101_code (5 : Nat) (Option.none : Option ClassFile.FieldType)) ∈ W0 := wm4 30 rfl rfl
theorem q4_31 : (Cond.constantLong "DikeWatch$Storms" (26 : Nat) (10 : Int64)) ∈ W0 := wm4 31 rfl rfl
theorem q4_32 : (Cond.methodLink "DikeWatch$Storms" (28 : Nat) ({ cls := "DikeWatch$Storms", name := "cancel", desc := "(I)V" } : MethodName)) ∈ W0 := wm4 32 rfl rfl
theorem q4_34 : (Cond.instanceMethod ({ cls := "DikeWatch$Storms", name := "cancel", desc := "(I)V" } : MethodName)) ∈ W0 := wm4 34 rfl rfl
theorem q4_35 : (Cond.code ({ cls := "DikeWatch$Storms", name := "cancel", desc := "(I)V" } : MethodName) prog_7_method_4_code (2 : Nat) (Option.none : Option ClassFile.FieldType)) ∈ W0 := wm4 35 rfl rfl
theorem q4_36 : (Cond.methodLink "DikeWatchLaw" (93 : Nat) ({ cls := "DikeWatch", name := "guard", desc := "(II)I" } : MethodName)) ∈ W0 := wm4 36 rfl rfl
theorem q4_37 : (Cond.instanceMethod ({ cls := "DikeWatch", name := "guard", desc := "(II)I" } : MethodName)) ∈ W0 := wm4 37 rfl rfl
theorem q4_38 : (Cond.selects "DikeWatch" ({ cls := "DikeWatch", name := "guard", desc := "(II)I" } : MethodName) ({ cls := "DikeWatch", name := "guard", desc := "(II)I" } : MethodName)) ∈ W0 := wm4 38 rfl rfl
theorem q4_39 : (Cond.code ({ cls := "DikeWatch", name := "guard", desc := "(II)I" } : MethodName) prog_1_method_20_code (7 : Nat) (Option.some ClassFile.FieldType.int)) ∈ W0 := wm4 39 rfl rfl
theorem q4_40 : (Cond.methodLink "DikeWatch" (253 : Nat) ({ cls := "DikeWatch$Night", name := "heardFrom", desc := "(II)I" } : MethodName)) ∈ W0 := wm4 40 rfl rfl
theorem q4_41 : (Cond.methodLink "DikeWatchLaw" (97 : Nat) ({ cls := "DikeWatch", name := "seen", desc := "(III)I" } : MethodName)) ∈ W0 := wm4 41 rfl rfl
theorem q4_42 : (Cond.instanceMethod ({ cls := "DikeWatch", name := "seen", desc := "(III)I" } : MethodName)) ∈ W0 := wm4 42 rfl rfl
theorem q4_43 : (Cond.selects "DikeWatch" ({ cls := "DikeWatch", name := "seen", desc := "(III)I" } : MethodName) ({ cls := "DikeWatch", name := "seen", desc := "(III)I" } : MethodName)) ∈ W0 := wm4 43 rfl rfl
theorem q4_44 : (Cond.code ({ cls := "DikeWatch", name := "seen", desc := "(III)I" } : MethodName) prog_1_method_21_code (5 : Nat) (Option.some ClassFile.FieldType.int)) ∈ W0 := wm4 44 rfl rfl
theorem q4_45 : (Cond.methodLink "DikeWatch" (256 : Nat) ({ cls := "DikeWatch$Clues", name := "yardsInEar", desc := "(II)I" } : MethodName)) ∈ W0 := wm4 45 rfl rfl
theorem q4_46 : (Cond.instanceMethod ({ cls := "DikeWatch$Clues", name := "yardsInEar", desc := "(II)I" } : MethodName)) ∈ W0 := wm4 46 rfl rfl
theorem q4_47 : (Cond.selects "DikeWatch$Clues" ({ cls := "DikeWatch$Clues", name := "yardsInEar", desc := "(II)I" } : MethodName) ({ cls := "DikeWatch$Clues", name := "yardsInEar", desc := "(II)I" } : MethodName)) ∈ W0 := wm4 47 rfl rfl
theorem q4_48 : (Cond.code ({ cls := "DikeWatch$Clues", name := "yardsInEar", desc := "(II)I" } : MethodName) prog_2_method_4_code (5 : Nat) (Option.some ClassFile.FieldType.int)) ∈ W0 := wm4 48 rfl rfl
theorem q4_50 : (Cond.methodLink "DikeWatch" (259 : Nat) ({ cls := "DikeWatch$Clues", name := "add", desc := "(I)I" } : MethodName)) ∈ W0 := wm4 50 rfl rfl
theorem q4_51 : (Cond.instanceMethod ({ cls := "DikeWatch$Clues", name := "add", desc := "(I)I" } : MethodName)) ∈ W0 := wm4 51 rfl rfl
theorem q4_52 : (Cond.selects "DikeWatch$Clues" ({ cls := "DikeWatch$Clues", name := "add", desc := "(I)I" } : MethodName) ({ cls := "DikeWatch$Clues", name := "add", desc := "(I)I" } : MethodName)) ∈ W0 := wm4 52 rfl rfl
theorem q4_53 : (Cond.code ({ cls := "DikeWatch$Clues", name := "add", desc := "(I)I" } : MethodName) prog_2_method_3_code (2 : Nat) (Option.some ClassFile.FieldType.int)) ∈ W0 := wm4 53 rfl rfl
theorem q4_54 : (Cond.methodLink "DikeWatchLaw" (101 : Nat) ({ cls := "DikeWatch", name := "paid", desc := "(II)I" } : MethodName)) ∈ W0 := wm4 54 rfl rfl
theorem q4_55 : (Cond.instanceMethod ({ cls := "DikeWatch", name := "paid", desc := "(II)I" } : MethodName)) ∈ W0 := wm4 55 rfl rfl
theorem q4_56 : (Cond.selects "DikeWatch" ({ cls := "DikeWatch", name := "paid", desc := "(II)I" } : MethodName) ({ cls := "DikeWatch", name := "paid", desc := "(II)I" } : MethodName)) ∈ W0 := wm4 56 rfl rfl
theorem q4_57 : (Cond.code ({ cls := "DikeWatch", name := "paid", desc := "(II)I" } : MethodName) prog_1_method_22_code (3 : Nat) (Option.some ClassFile.FieldType.int)) ∈ W0 := wm4 57 rfl rfl
theorem q4_58 : (Cond.methodLink "DikeWatch" (261 : Nat) ({ cls := "DikeWatch$Clues", name := "yardsPaying", desc := "(II)I" } : MethodName)) ∈ W0 := wm4 58 rfl rfl
theorem q4_59 : (Cond.instanceMethod ({ cls := "DikeWatch$Clues", name := "yardsPaying", desc := "(II)I" } : MethodName)) ∈ W0 := wm4 59 rfl rfl
theorem q4_60 : (Cond.selects "DikeWatch$Clues" ({ cls := "DikeWatch$Clues", name := "yardsPaying", desc := "(II)I" } : MethodName) ({ cls := "DikeWatch$Clues", name := "yardsPaying", desc := "(II)I" } : MethodName)) ∈ W0 := wm4 60 rfl rfl
theorem q4_61 : (Cond.code ({ cls := "DikeWatch$Clues", name := "yardsPaying", desc := "(II)I" } : MethodName) prog_2_method_5_code (5 : Nat) (Option.some ClassFile.FieldType.int)) ∈ W0 := wm4 61 rfl rfl
theorem q4_63 : (Cond.methodLink "DikeWatchLaw" (105 : Nat) ({ cls := "DikeWatch", name := "forget", desc := "()I" } : MethodName)) ∈ W0 := wm4 63 rfl rfl
theorem q4_64 : (Cond.instanceMethod ({ cls := "DikeWatch", name := "forget", desc := "()I" } : MethodName)) ∈ W0 := wm4 64 rfl rfl
theorem q4_65 : (Cond.selects "DikeWatch" ({ cls := "DikeWatch", name := "forget", desc := "()I" } : MethodName) ({ cls := "DikeWatch", name := "forget", desc := "()I" } : MethodName)) ∈ W0 := wm4 65 rfl rfl
theorem q4_66 : (Cond.code ({ cls := "DikeWatch", name := "forget", desc := "()I" } : MethodName) prog_1_method_23_code (2 : Nat) (Option.some ClassFile.FieldType.int)) ∈ W0 := wm4 66 rfl rfl
theorem q4_67 : (Cond.methodLink "DikeWatchLaw" (109 : Nat) ({ cls := "DikeWatch", name := "where", desc := "()I" } : MethodName)) ∈ W0 := wm4 67 rfl rfl
theorem q4_68 : (Cond.instanceMethod ({ cls := "DikeWatch", name := "where", desc := "()I" } : MethodName)) ∈ W0 := wm4 68 rfl rfl
theorem q4_69 : (Cond.selects "DikeWatch" ({ cls := "DikeWatch", name := "where", desc := "()I" } : MethodName) ({ cls := "DikeWatch", name := "where", desc := "()I" } : MethodName)) ∈ W0 := wm4 69 rfl rfl
theorem q4_70 : (Cond.code ({ cls := "DikeWatch", name := "where", desc := "()I" } : MethodName) prog_1_method_24_code (1 : Nat) (Option.some ClassFile.FieldType.int)) ∈ W0 := wm4 70 rfl rfl
theorem q4_71 : (Cond.methodLink "DikeWatchLaw" (113 : Nat) ({ cls := "DikeWatch", name := "next", desc := "(I)I" } : MethodName)) ∈ W0 := wm4 71 rfl rfl
theorem q4_72 : (Cond.instanceMethod ({ cls := "DikeWatch", name := "next", desc := "(I)I" } : MethodName)) ∈ W0 := wm4 72 rfl rfl
theorem q4_73 : (Cond.selects "DikeWatch" ({ cls := "DikeWatch", name := "next", desc := "(I)I" } : MethodName) ({ cls := "DikeWatch", name := "next", desc := "(I)I" } : MethodName)) ∈ W0 := wm4 73 rfl rfl
theorem q4_74 : (Cond.code ({ cls := "DikeWatch", name := "next", desc := "(I)I" } : MethodName) prog_1_method_25_code (2 : Nat) (Option.some ClassFile.FieldType.int)) ∈ W0 := wm4 74 rfl rfl
theorem q4_75 : (Cond.methodLink "DikeWatch" (270 : Nat) ({ cls := "DikeWatch$Clues", name := "surestYard", desc := "(I)I" } : MethodName)) ∈ W0 := wm4 75 rfl rfl
theorem q4_76 : (Cond.instanceMethod ({ cls := "DikeWatch$Clues", name := "surestYard", desc := "(I)I" } : MethodName)) ∈ W0 := wm4 76 rfl rfl
theorem q4_77 : (Cond.selects "DikeWatch$Clues" ({ cls := "DikeWatch$Clues", name := "surestYard", desc := "(I)I" } : MethodName) ({ cls := "DikeWatch$Clues", name := "surestYard", desc := "(I)I" } : MethodName)) ∈ W0 := wm4 77 rfl rfl
theorem q4_78 : (Cond.code ({ cls := "DikeWatch$Clues", name := "surestYard", desc := "(I)I" } : MethodName) prog_2_method_6_code (7 : Nat) (Option.some ClassFile.FieldType.int)) ∈ W0 := wm4 78 rfl rfl
theorem q4_79 : (Cond.methodLink "DikeWatch$Clues" (29 : Nat) ({ cls := "DikeWatch$Clues", name := "yardsInEar", desc := "(II)I" } : MethodName)) ∈ W0 := wm4 79 rfl rfl
theorem q4_80 : (Cond.methodLink "DikeWatch$Clues" (32 : Nat) ({ cls := "java/lang/Integer", name := "bitCount", desc := "(I)I" } : MethodName)) ∈ W0 := wm4 80 rfl rfl
theorem q4_81 : (Cond.methodLink "DikeWatch$Clues" (38 : Nat) ({ cls := "java/lang/Math", name := "max", desc := "(II)I" } : MethodName)) ∈ W0 := wm4 81 rfl rfl
theorem q4_82 : (Cond.methodLink "DikeWatchLaw" (117 : Nat) ({ cls := "DikeWatch", name := "count", desc := "(I)I" } : MethodName)) ∈ W0 := wm4 82 rfl rfl
theorem q4_83 : (Cond.instanceMethod ({ cls := "DikeWatch", name := "count", desc := "(I)I" } : MethodName)) ∈ W0 := wm4 83 rfl rfl
theorem q4_84 : (Cond.selects "DikeWatch" ({ cls := "DikeWatch", name := "count", desc := "(I)I" } : MethodName) ({ cls := "DikeWatch", name := "count", desc := "(I)I" } : MethodName)) ∈ W0 := wm4 84 rfl rfl
theorem q4_85 : (Cond.code ({ cls := "DikeWatch", name := "count", desc := "(I)I" } : MethodName) prog_1_method_26_code (2 : Nat) (Option.some ClassFile.FieldType.int)) ∈ W0 := wm4 85 rfl rfl
theorem q4_86 : (Cond.methodLink "DikeWatch" (279 : Nat) ({ cls := "DikeWatch$Night", name := "brokenSeeps", desc := "()I" } : MethodName)) ∈ W0 := wm4 86 rfl rfl
theorem q4_87 : (Cond.classLink "DikeWatchLaw" (10 : Nat) "DikeWatchModel") ∈ W0 := wm4 87 rfl rfl
theorem q4_88 : (Cond.instantiable "DikeWatchModel" (26 : Nat)) ∈ W0 := wm4 88 rfl rfl
theorem q4_89 : (Cond.methodLink "DikeWatchLaw" (12 : Nat) ({ cls := "DikeWatchModel", name := "<init>", desc := "()V" } : MethodName)) ∈ W0 := wm4 89 rfl rfl
theorem q4_90 : (Cond.instanceMethod ({ cls := "DikeWatchModel", name := "<init>", desc := "()V" } : MethodName)) ∈ W0 := wm4 90 rfl rfl
theorem q4_91 : (Cond.code ({ cls := "DikeWatchModel", name := "<init>", desc := "()V" } : MethodName) prog_11_method_1_code (1 : Nat) (Option.none : Option ClassFile.FieldType)) ∈ W0 := wm4 91 rfl rfl
theorem q4_92 : (Cond.methodLink "DikeWatchModel" (1 : Nat) ({ cls := "java/lang/Object", name := "<init>", desc := "()V" } : MethodName)) ∈ W0 := wm4 92 rfl rfl
theorem q4_93 : (Cond.fieldLink "DikeWatchModel" (7 : Nat) "DikeWatchModel" "row" "[I") ∈ W0 := wm4 93 rfl rfl
theorem q4_94 : (Cond.fieldLink "DikeWatchModel" (13 : Nat) "DikeWatchModel" "isKept" "[Z") ∈ W0 := wm4 94 rfl rfl
theorem q4_95 : (Cond.fieldLink "DikeWatchModel" (17 : Nat) "DikeWatchModel" "text" "[I") ∈ W0 := wm4 95 rfl rfl
theorem q4_96 : (Cond.fieldLink "DikeWatchModel" (60 : Nat) "DikeWatchModel" "length" "I") ∈ W0 := wm4 96 rfl rfl
theorem q4_97 : (Cond.fieldLink "DikeWatchModel" (20 : Nat) "DikeWatchModel" "read" "[I") ∈ W0 := wm4 97 rfl rfl
theorem q4_98 : (Cond.fieldLink "DikeWatchModel" (94 : Nat) "DikeWatchModel" "readMany" "I") ∈ W0 := wm4 98 rfl rfl
theorem q4_99 : (Cond.fieldLink "DikeWatchModel" (23 : Nat) "DikeWatchModel" "yards" "I") ∈ W0 := wm4 99 rfl rfl
theorem q4_100 : (Cond.fieldLink "DikeWatchModel" (27 : Nat) "DikeWatchModel" "tides" "[I") ∈ W0 := wm4 100 rfl rfl
theorem q4_101 : (Cond.fieldLink "DikeWatchModel" (30 : Nat) "DikeWatchModel" "seeps" "[I") ∈ W0 := wm4 101 rfl rfl
theorem q4_102 : (Cond.fieldLink "DikeWatchModel" (127 : Nat) "DikeWatchModel" "seepMany" "I") ∈ W0 := wm4 102 rfl rfl
theorem q4_103 : (Cond.fieldLink "DikeWatchModel" (33 : Nat) "DikeWatchModel" "kinds" "[I") ∈ W0 := wm4 103 rfl rfl
theorem q4_104 : (Cond.fieldLink "DikeWatchModel" (36 : Nat) "DikeWatchModel" "paces" "[I") ∈ W0 := wm4 104 rfl rfl
theorem q4_105 : (Cond.fieldLink "DikeWatchModel" (39 : Nat) "DikeWatchModel" "ears" "[I") ∈ W0 := wm4 105 rfl rfl
theorem q4_106 : (Cond.fieldLink "DikeWatchModel" (130 : Nat) "DikeWatchModel" "many" "I") ∈ W0 := wm4 106 rfl rfl
theorem q4_107 : (Cond.fieldLink "DikeWatchModel" (65 : Nat) "DikeWatchModel" "at" "I") ∈ W0 := wm4 107 rfl rfl
theorem q4_108 : (Cond.fieldLink "DikeWatchModel" (68 : Nat) "DikeWatchModel" "place" "I") ∈ W0 := wm4 108 rfl rfl
theorem q4_109 : (Cond.fieldLink "DikeWatchModel" (75 : Nat) "DikeWatchModel" "end" "I") ∈ W0 := wm4 109 rfl rfl
theorem q4_110 : (Cond.fieldLink "DikeWatchModel" (100 : Nat) "DikeWatchModel" "readYards" "I") ∈ W0 := wm4 110 rfl rfl
theorem q4_111 : (Cond.fieldLink "DikeWatchModel" (114 : Nat) "DikeWatchModel" "readSeeps" "I") ∈ W0 := wm4 111 rfl rfl
theorem q4_112 : (Cond.fieldLink "DikeWatchModel" (121 : Nat) "DikeWatchModel" "readChildren" "I") ∈ W0 := wm4 112 rfl rfl
theorem q4_113 : (Cond.fieldLink "DikeWatchModel" (42 : Nat) "DikeWatchModel" "hearers" "[I") ∈ W0 := wm4 113 rfl rfl
theorem q4_114 : (Cond.fieldLink "DikeWatchModel" (45 : Nat) "DikeWatchModel" "chosen" "[I") ∈ W0 := wm4 114 rfl rfl
theorem q4_115 : (Cond.fieldLink "DikeWatchModel" (212 : Nat) "DikeWatchModel" "chosenMany" "I") ∈ W0 := wm4 115 rfl rfl
theorem q4_116 : (Cond.fieldLink "DikeWatchModel" (48 : Nat) "DikeWatchModel" "dues" "[I") ∈ W0 := wm4 116 rfl rfl
theorem q4_117 : (Cond.fieldLink "DikeWatchModel" (51 : Nat) "DikeWatchModel" "sights" "[I") ∈ W0 := wm4 117 rfl rfl
theorem q4_118 : (Cond.fieldLink "DikeWatchModel" (151 : Nat) "DikeWatchModel" "seenMany" "I") ∈ W0 := wm4 118 rfl rfl
theorem q4_172 : (Cond.arrayClass ClassFile.FieldType.boolean) ∈ W0 := wm4 172 rfl rfl
theorem q4_173 : (Cond.methodLink "DikeWatchLaw" (19 : Nat) ({ cls := "DikeWatchModel", name := "write", desc := "(JI)I" } : MethodName)) ∈ W0 := wm4 173 rfl rfl
theorem q4_174 : (Cond.instanceMethod ({ cls := "DikeWatchModel", name := "write", desc := "(JI)I" } : MethodName)) ∈ W0 := wm4 174 rfl rfl
theorem q4_175 : (Cond.selects "DikeWatchModel" ({ cls := "DikeWatchModel", name := "write", desc := "(JI)I" } : MethodName) ({ cls := "DikeWatchModel", name := "write", desc := "(JI)I" } : MethodName)) ∈ W0 := wm4 175 rfl rfl
theorem q4_176 : (Cond.code ({ cls := "DikeWatchModel", name := "write", desc := "(JI)I" } : MethodName) prog_11_method_7_code (5 : Nat) (Option.some ClassFile.FieldType.int)) ∈ W0 := wm4 176 rfl rfl
theorem q4_177 : (Cond.constantLong "DikeWatchModel" (54 : Nat) (8 : Int64)) ∈ W0 := wm4 177 rfl rfl
theorem q4_178 : (Cond.methodLink "DikeWatchModel" (56 : Nat) ({ cls := "DikeWatchModel", name := "in", desc := "(JJJ)Z" } : MethodName)) ∈ W0 := wm4 178 rfl rfl
theorem q4_179 : (Cond.static ({ cls := "DikeWatchModel", name := "in", desc := "(JJJ)Z" } : MethodName)) ∈ W0 := wm4 179 rfl rfl
theorem q4_180 : (Cond.code ({ cls := "DikeWatchModel", name := "in", desc := "(JJJ)Z" } : MethodName) prog_11_method_2_code (6 : Nat) (Option.some ClassFile.FieldType.boolean)) ∈ W0 := wm4 180 rfl rfl
theorem q4_181 : (Cond.constantLong "DikeWatchModel" (63 : Nat) (255 : Int64)) ∈ W0 := wm4 181 rfl rfl
theorem q4_182 : (Cond.methodLink "DikeWatchLaw" (24 : Nat) ({ cls := "DikeWatchModel", name := "erase", desc := "()I" } : MethodName)) ∈ W0 := wm4 182 rfl rfl
theorem q4_183 : (Cond.instanceMethod ({ cls := "DikeWatchModel", name := "erase", desc := "()I" } : MethodName)) ∈ W0 := wm4 183 rfl rfl
theorem q4_184 : (Cond.selects "DikeWatchModel" ({ cls := "DikeWatchModel", name := "erase", desc := "()I" } : MethodName) ({ cls := "DikeWatchModel", name := "erase", desc := "()I" } : MethodName)) ∈ W0 := wm4 184 rfl rfl
theorem q4_185 : (Cond.code ({ cls := "DikeWatchModel", name := "erase", desc := "()I" } : MethodName) prog_11_method_8_code (2 : Nat) (Option.some ClassFile.FieldType.int)) ∈ W0 := wm4 185 rfl rfl
theorem q4_186 : (Cond.methodLink "DikeWatchLaw" (28 : Nat) ({ cls := "DikeWatchModel", name := "fault", desc := "()I" } : MethodName)) ∈ W0 := wm4 186 rfl rfl
theorem q4_187 : (Cond.instanceMethod ({ cls := "DikeWatchModel", name := "fault", desc := "()I" } : MethodName)) ∈ W0 := wm4 187 rfl rfl
theorem q4_188 : (Cond.selects "DikeWatchModel" ({ cls := "DikeWatchModel", name := "fault", desc := "()I" } : MethodName) ({ cls := "DikeWatchModel", name := "fault", desc := "()I" } : MethodName)) ∈ W0 := wm4 188 rfl rfl
theorem q4_189 : (Cond.code ({ cls := "DikeWatchModel", name := "fault", desc := "()I" } : MethodName) prog_11_method_18_code (2 : Nat) (Option.some ClassFile.FieldType.int)) ∈ W0 := wm4 189 rfl rfl
theorem q4_190 : (Cond.methodLink "DikeWatchModel" (97 : Nat) ({ cls := "DikeWatchModel", name := "token", desc := "()V" } : MethodName)) ∈ W0 := wm4 190 rfl rfl
theorem q4_192 : (Cond.instanceMethod ({ cls := "DikeWatchModel", name := "token", desc := "()V" } : MethodName)) ∈ W0 := wm4 192 rfl rfl
theorem q4_193 : (Cond.code ({ cls := "DikeWatchModel", name := "token", desc := "()V" } : MethodName) prog_11_method_10_code (1 : Nat) (Option.none : Option ClassFile.FieldType)) ∈ W0 := wm4 193 rfl rfl
theorem q4_194 : (Cond.methodLink "DikeWatchModel" (71 : Nat) ({ cls := "DikeWatchModel", name := "sort", desc := "(I)I" } : MethodName)) ∈ W0 := wm4 194 rfl rfl
theorem q4_195 : (Cond.static ({ cls := "DikeWatchModel", name := "sort", desc := "(I)I" } : MethodName)) ∈ W0 := wm4 195 rfl rfl
theorem q4_196 : (Cond.code ({ cls := "DikeWatchModel", name := "sort", desc := "(I)I" } : MethodName) prog_11_method_9_code (1 : Nat) (Option.some ClassFile.FieldType.int)) ∈ W0 := wm4 196 rfl rfl
theorem q4_197 : (Cond.methodLink "DikeWatchModel" (133 : Nat) ({ cls := "DikeWatchModel", name := "readsLine", desc := "()Z" } : MethodName)) ∈ W0 := wm4 197 rfl rfl
theorem q4_199 : (Cond.instanceMethod ({ cls := "DikeWatchModel", name := "readsLine", desc := "()Z" } : MethodName)) ∈ W0 := wm4 199 rfl rfl
theorem q4_200 : (Cond.code ({ cls := "DikeWatchModel", name := "readsLine", desc := "()Z" } : MethodName) prog_11_method_17_code (2 : Nat) (Option.some ClassFile.FieldType.boolean)) ∈ W0 := wm4 200 rfl rfl
theorem q4_201 : (Cond.methodLink "DikeWatchModel" (111 : Nat) ({ cls := "DikeWatchModel", name := "wordOf", desc := "()I" } : MethodName)) ∈ W0 := wm4 201 rfl rfl
theorem q4_203 : (Cond.instanceMethod ({ cls := "DikeWatchModel", name := "wordOf", desc := "()I" } : MethodName)) ∈ W0 := wm4 203 rfl rfl
theorem q4_204 : (Cond.code ({ cls := "DikeWatchModel", name := "wordOf", desc := "()I" } : MethodName) prog_11_method_13_code (2 : Nat) (Option.some ClassFile.FieldType.int)) ∈ W0 := wm4 204 rfl rfl
theorem q4_205 : (Cond.methodLink "DikeWatchModel" (86 : Nat) ({ cls := "DikeWatchModel", name := "childWord", desc := "()I" } : MethodName)) ∈ W0 := wm4 205 rfl rfl
theorem q4_207 : (Cond.instanceMethod ({ cls := "DikeWatchModel", name := "childWord", desc := "()I" } : MethodName)) ∈ W0 := wm4 207 rfl rfl
theorem q4_208 : (Cond.code ({ cls := "DikeWatchModel", name := "childWord", desc := "()I" } : MethodName) prog_11_method_12_code (1 : Nat) (Option.some ClassFile.FieldType.int)) ∈ W0 := wm4 208 rfl rfl
theorem q4_209 : (Cond.constant "DikeWatchModel" (78 : Nat) (14976400 : Int32)) ∈ W0 := wm4 209 rfl rfl
theorem q4_210 : (Cond.methodLink "DikeWatchModel" (79 : Nat) ({ cls := "DikeWatchModel", name := "isWord", desc := "(II)Z" } : MethodName)) ∈ W0 := wm4 210 rfl rfl
theorem q4_212 : (Cond.instanceMethod ({ cls := "DikeWatchModel", name := "isWord", desc := "(II)Z" } : MethodName)) ∈ W0 := wm4 212 rfl rfl
theorem q4_213 : (Cond.code ({ cls := "DikeWatchModel", name := "isWord", desc := "(II)Z" } : MethodName) prog_11_method_11_code (5 : Nat) (Option.some ClassFile.FieldType.boolean)) ∈ W0 := wm4 213 rfl rfl
theorem q4_214 : (Cond.constant "DikeWatchModel" (83 : Nat) (4376884 : Int32)) ∈ W0 := wm4 214 rfl rfl
theorem q4_215 : (Cond.constant "DikeWatchModel" (84 : Nat) (787944 : Int32)) ∈ W0 := wm4 215 rfl rfl
theorem q4_216 : (Cond.constant "DikeWatchModel" (85 : Nat) (197796 : Int32)) ∈ W0 := wm4 216 rfl rfl
theorem q4_217 : (Cond.constant "DikeWatchModel" (90 : Nat) (175396 : Int32)) ∈ W0 := wm4 217 rfl rfl
theorem q4_218 : (Cond.constant "DikeWatchModel" (91 : Nat) (168244 : Int32)) ∈ W0 := wm4 218 rfl rfl
theorem q4_219 : (Cond.constant "DikeWatchModel" (92 : Nat) (529587 : Int32)) ∈ W0 := wm4 219 rfl rfl
theorem q4_220 : (Cond.constant "DikeWatchModel" (93 : Nat) (418881651 : Int32)) ∈ W0 := wm4 220 rfl rfl
theorem q4_221 : (Cond.methodLink "DikeWatchModel" (117 : Nat) ({ cls := "DikeWatchModel", name := "isChildWord", desc := "(I)Z" } : MethodName)) ∈ W0 := wm4 221 rfl rfl
theorem q4_222 : (Cond.static ({ cls := "DikeWatchModel", name := "isChildWord", desc := "(I)Z" } : MethodName)) ∈ W0 := wm4 222 rfl rfl
theorem q4_223 : (Cond.code ({ cls := "DikeWatchModel", name := "isChildWord", desc := "(I)Z" } : MethodName) prog_11_method_16_code (1 : Nat) (Option.some ClassFile.FieldType.boolean)) ∈ W0 := wm4 223 rfl rfl
theorem q4_224 : (Cond.constantLong "DikeWatchModel" (107 : Nat) (3 : Int64)) ∈ W0 := wm4 224 rfl rfl
theorem q4_225 : (Cond.constantLong "DikeWatchModel" (109 : Nat) (6 : Int64)) ∈ W0 := wm4 225 rfl rfl
theorem q4_226 : (Cond.methodLink "DikeWatchModel" (124 : Nat) ({ cls := "DikeWatchModel", name := "readsRest", desc := "(I)Z" } : MethodName)) ∈ W0 := wm4 226 rfl rfl
theorem q4_228 : (Cond.instanceMethod ({ cls := "DikeWatchModel", name := "readsRest", desc := "(I)Z" } : MethodName)) ∈ W0 := wm4 228 rfl rfl
theorem q4_229 : (Cond.code ({ cls := "DikeWatchModel", name := "readsRest", desc := "(I)Z" } : MethodName) prog_11_method_15_code (3 : Nat) (Option.some ClassFile.FieldType.boolean)) ∈ W0 := wm4 229 rfl rfl
theorem q4_230 : (Cond.methodLink "DikeWatchModel" (103 : Nat) ({ cls := "DikeWatchModel", name := "reads", desc := "(III)Z" } : MethodName)) ∈ W0 := wm4 230 rfl rfl
theorem q4_232 : (Cond.instanceMethod ({ cls := "DikeWatchModel", name := "reads", desc := "(III)Z" } : MethodName)) ∈ W0 := wm4 232 rfl rfl
theorem q4_233 : (Cond.code ({ cls := "DikeWatchModel", name := "reads", desc := "(III)Z" } : MethodName) prog_11_method_14_code (6 : Nat) (Option.some ClassFile.FieldType.boolean)) ∈ W0 := wm4 233 rfl rfl
theorem q4_234 : (Cond.methodLink "DikeWatchLaw" (32 : Nat) ({ cls := "DikeWatchModel", name := "dike", desc := "()I" } : MethodName)) ∈ W0 := wm4 234 rfl rfl
theorem q4_235 : (Cond.instanceMethod ({ cls := "DikeWatchModel", name := "dike", desc := "()I" } : MethodName)) ∈ W0 := wm4 235 rfl rfl
theorem q4_236 : (Cond.selects "DikeWatchModel" ({ cls := "DikeWatchModel", name := "dike", desc := "()I" } : MethodName) ({ cls := "DikeWatchModel", name := "dike", desc := "()I" } : MethodName)) ∈ W0 := wm4 236 rfl rfl
theorem q4_237 : (Cond.code ({ cls := "DikeWatchModel", name := "dike", desc := "()I" } : MethodName) prog_11_method_21_code (2 : Nat) (Option.some ClassFile.FieldType.int)) ∈ W0 := wm4 237 rfl rfl
theorem q4_238 : (Cond.methodLink "DikeWatchModel" (141 : Nat) ({ cls := "DikeWatchModel", name := "fault", desc := "()I" } : MethodName)) ∈ W0 := wm4 238 rfl rfl
theorem q4_239 : (Cond.methodLink "DikeWatchModel" (144 : Nat) ({ cls := "DikeWatchModel", name := "tell", desc := "(I)V" } : MethodName)) ∈ W0 := wm4 239 rfl rfl
theorem q5_1 : (Cond.instanceMethod ({ cls := "DikeWatchModel", name := "tell", desc := "(I)V" } : MethodName)) ∈ W0 := wm5 1 rfl rfl
theorem q5_2 : (Cond.code ({ cls := "DikeWatchModel", name := "tell", desc := "(I)V" } : MethodName) prog_11_method_20_code (3 : Nat) (Option.none : Option ClassFile.FieldType)) ∈ W0 := wm5 2 rfl rfl
theorem q5_3 : (Cond.methodLink "DikeWatchModel" (137 : Nat) ({ cls := "DikeWatchModel", name := "clear", desc := "(I)V" } : MethodName)) ∈ W0 := wm5 3 rfl rfl
theorem q5_5 : (Cond.instanceMethod ({ cls := "DikeWatchModel", name := "clear", desc := "(I)V" } : MethodName)) ∈ W0 := wm5 5 rfl rfl
theorem q5_6 : (Cond.code ({ cls := "DikeWatchModel", name := "clear", desc := "(I)V" } : MethodName) prog_11_method_19_code (3 : Nat) (Option.none : Option ClassFile.FieldType)) ∈ W0 := wm5 6 rfl rfl
theorem q5_7 : (Cond.methodLink "DikeWatchModel" (147 : Nat) ({ cls := "DikeWatchModel", name := "copy", desc := "(II)V" } : MethodName)) ∈ W0 := wm5 7 rfl rfl
theorem q5_9 : (Cond.instanceMethod ({ cls := "DikeWatchModel", name := "copy", desc := "(II)V" } : MethodName)) ∈ W0 := wm5 9 rfl rfl
theorem q5_10 : (Cond.code ({ cls := "DikeWatchModel", name := "copy", desc := "(II)V" } : MethodName) prog_11_method_6_code (4 : Nat) (Option.none : Option ClassFile.FieldType)) ∈ W0 := wm5 10 rfl rfl
theorem q5_11 : (Cond.methodLink "DikeWatchLaw" (37 : Nat) ({ cls := "DikeWatchModel", name := "tide", desc := "(I)I" } : MethodName)) ∈ W0 := wm5 11 rfl rfl
theorem q5_12 : (Cond.instanceMethod ({ cls := "DikeWatchModel", name := "tide", desc := "(I)I" } : MethodName)) ∈ W0 := wm5 12 rfl rfl
theorem q5_13 : (Cond.selects "DikeWatchModel" ({ cls := "DikeWatchModel", name := "tide", desc := "(I)I" } : MethodName) ({ cls := "DikeWatchModel", name := "tide", desc := "(I)I" } : MethodName)) ∈ W0 := wm5 13 rfl rfl
theorem q5_14 : (Cond.code ({ cls := "DikeWatchModel", name := "tide", desc := "(I)I" } : MethodName) prog_11_method_25_code (2 : Nat) (Option.some ClassFile.FieldType.int)) ∈ W0 := wm5 14 rfl rfl
theorem q5_15 : (Cond.constantLong "DikeWatchModel" (154 : Nat) (11 : Int64)) ∈ W0 := wm5 15 rfl rfl
theorem q5_16 : (Cond.methodLink "DikeWatchLaw" (42 : Nat) ({ cls := "DikeWatchModel", name := "seep", desc := "(II)I" } : MethodName)) ∈ W0 := wm5 16 rfl rfl
theorem q5_17 : (Cond.instanceMethod ({ cls := "DikeWatchModel", name := "seep", desc := "(II)I" } : MethodName)) ∈ W0 := wm5 17 rfl rfl
theorem q5_18 : (Cond.selects "DikeWatchModel" ({ cls := "DikeWatchModel", name := "seep", desc := "(II)I" } : MethodName) ({ cls := "DikeWatchModel", name := "seep", desc := "(II)I" } : MethodName)) ∈ W0 := wm5 18 rfl rfl
theorem q5_19 : (Cond.code ({ cls := "DikeWatchModel", name := "seep", desc := "(II)I" } : MethodName) prog_11_method_26_code (3 : Nat) (Option.some ClassFile.FieldType.int)) ∈ W0 := wm5 19 rfl rfl
theorem q5_20 : (Cond.methodLink "DikeWatchModel" (156 : Nat) ({ cls := "DikeWatchModel", name := "isSeep", desc := "(I)Z" } : MethodName)) ∈ W0 := wm5 20 rfl rfl
theorem q5_22 : (Cond.instanceMethod ({ cls := "DikeWatchModel", name := "isSeep", desc := "(I)Z" } : MethodName)) ∈ W0 := wm5 22 rfl rfl
theorem q5_23 : (Cond.code ({ cls := "DikeWatchModel", name := "isSeep", desc := "(I)Z" } : MethodName) prog_11_method_23_code (2 : Nat) (Option.some ClassFile.FieldType.boolean)) ∈ W0 := wm5 23 rfl rfl
theorem q5_24 : (Cond.methodLink "DikeWatchLaw" (46 : Nat) ({ cls := "DikeWatchModel", name := "child", desc := "(II)I" } : MethodName)) ∈ W0 := wm5 24 rfl rfl
theorem q5_25 : (Cond.instanceMethod ({ cls := "DikeWatchModel", name := "child", desc := "(II)I" } : MethodName)) ∈ W0 := wm5 25 rfl rfl
theorem q5_26 : (Cond.selects "DikeWatchModel" ({ cls := "DikeWatchModel", name := "child", desc := "(II)I" } : MethodName) ({ cls := "DikeWatchModel", name := "child", desc := "(II)I" } : MethodName)) ∈ W0 := wm5 26 rfl rfl
theorem q5_27 : (Cond.code ({ cls := "DikeWatchModel", name := "child", desc := "(II)I" } : MethodName) prog_11_method_31_code (3 : Nat) (Option.some ClassFile.FieldType.int)) ∈ W0 := wm5 27 rfl rfl
theorem q5_28 : (Cond.methodLink "DikeWatchModel" (176 : Nat) ({ cls := "DikeWatchModel", name := "isChild", desc := "(I)Z" } : MethodName)) ∈ W0 := wm5 28 rfl rfl
theorem q5_30 : (Cond.instanceMethod ({ cls := "DikeWatchModel", name := "isChild", desc := "(I)Z" } : MethodName)) ∈ W0 := wm5 30 rfl rfl
theorem q5_31 : (Cond.code ({ cls := "DikeWatchModel", name := "isChild", desc := "(I)Z" } : MethodName) prog_11_method_24_code (2 : Nat) (Option.some ClassFile.FieldType.boolean)) ∈ W0 := wm5 31 rfl rfl
theorem q5_32 : (Cond.methodLink "DikeWatchModel" (166 : Nat) ({ cls := "DikeWatchModel", name := "earOf", desc := "(II)I" } : MethodName)) ∈ W0 := wm5 32 rfl rfl
theorem q5_34 : (Cond.instanceMethod ({ cls := "DikeWatchModel", name := "earOf", desc := "(II)I" } : MethodName)) ∈ W0 := wm5 34 rfl rfl
theorem q5_35 : (Cond.code ({ cls := "DikeWatchModel", name := "earOf", desc := "(II)I" } : MethodName) prog_11_method_27_code (4 : Nat) (Option.some ClassFile.FieldType.int)) ∈ W0 := wm5 35 rfl rfl
theorem q5_36 : (Cond.methodLink "DikeWatchModel" (179 : Nat) ({ cls := "DikeWatchModel", name := "tells", desc := "(I)I" } : MethodName)) ∈ W0 := wm5 36 rfl rfl
theorem q5_38 : (Cond.instanceMethod ({ cls := "DikeWatchModel", name := "tells", desc := "(I)I" } : MethodName)) ∈ W0 := wm5 38 rfl rfl
theorem q5_39 : (Cond.code ({ cls := "DikeWatchModel", name := "tells", desc := "(I)I" } : MethodName) prog_11_method_30_code (8 : Nat) (Option.some ClassFile.FieldType.int)) ∈ W0 := wm5 39 rfl rfl
theorem q5_40 : (Cond.methodLink "DikeWatchModel" (173 : Nat) ({ cls := "DikeWatchModel", name := "hears", desc := "(II)I" } : MethodName)) ∈ W0 := wm5 40 rfl rfl
theorem q5_42 : (Cond.instanceMethod ({ cls := "DikeWatchModel", name := "hears", desc := "(II)I" } : MethodName)) ∈ W0 := wm5 42 rfl rfl
theorem q5_43 : (Cond.code ({ cls := "DikeWatchModel", name := "hears", desc := "(II)I" } : MethodName) prog_11_method_29_code (3 : Nat) (Option.some ClassFile.FieldType.int)) ∈ W0 := wm5 43 rfl rfl
theorem q5_44 : (Cond.methodLink "DikeWatchModel" (169 : Nat) ({ cls := "DikeWatchModel", name := "heardAt", desc := "(III)I" } : MethodName)) ∈ W0 := wm5 44 rfl rfl
theorem q5_46 : (Cond.instanceMethod ({ cls := "DikeWatchModel", name := "heardAt", desc := "(III)I" } : MethodName)) ∈ W0 := wm5 46 rfl rfl
theorem q5_47 : (Cond.code ({ cls := "DikeWatchModel", name := "heardAt", desc := "(III)I" } : MethodName) prog_11_method_28_code (6 : Nat) (Option.some ClassFile.FieldType.int)) ∈ W0 := wm5 47 rfl rfl
theorem q5_48 : (Cond.methodLink "DikeWatchModel" (159 : Nat) ({ cls := "DikeWatchModel", name := "has", desc := "(II)Z" } : MethodName)) ∈ W0 := wm5 48 rfl rfl
theorem q5_49 : (Cond.static ({ cls := "DikeWatchModel", name := "has", desc := "(II)Z" } : MethodName)) ∈ W0 := wm5 49 rfl rfl
theorem q5_50 : (Cond.code ({ cls := "DikeWatchModel", name := "has", desc := "(II)Z" } : MethodName) prog_11_method_3_code (2 : Nat) (Option.some ClassFile.FieldType.boolean)) ∈ W0 := wm5 50 rfl rfl
theorem q5_51 : (Cond.methodLink "DikeWatchModel" (162 : Nat) ({ cls := "DikeWatchModel", name := "far", desc := "(II)I" } : MethodName)) ∈ W0 := wm5 51 rfl rfl
theorem q5_52 : (Cond.static ({ cls := "DikeWatchModel", name := "far", desc := "(II)I" } : MethodName)) ∈ W0 := wm5 52 rfl rfl
theorem q5_53 : (Cond.code ({ cls := "DikeWatchModel", name := "far", desc := "(II)I" } : MethodName) prog_11_method_5_code (2 : Nat) (Option.some ClassFile.FieldType.int)) ∈ W0 := wm5 53 rfl rfl
theorem q5_54 : (Cond.methodLink "DikeWatchLaw" (50 : Nat) ({ cls := "DikeWatchModel", name := "as", desc := "(II)I" } : MethodName)) ∈ W0 := wm5 54 rfl rfl
theorem q5_55 : (Cond.instanceMethod ({ cls := "DikeWatchModel", name := "as", desc := "(II)I" } : MethodName)) ∈ W0 := wm5 55 rfl rfl
theorem q5_56 : (Cond.selects "DikeWatchModel" ({ cls := "DikeWatchModel", name := "as", desc := "(II)I" } : MethodName) ({ cls := "DikeWatchModel", name := "as", desc := "(II)I" } : MethodName)) ∈ W0 := wm5 56 rfl rfl
theorem q5_57 : (Cond.code ({ cls := "DikeWatchModel", name := "as", desc := "(II)I" } : MethodName) prog_11_method_32_code (5 : Nat) (Option.some ClassFile.FieldType.int)) ∈ W0 := wm5 57 rfl rfl
theorem q5_58 : (Cond.constantLong "DikeWatchModel" (182 : Nat) (4 : Int64)) ∈ W0 := wm5 58 rfl rfl
theorem q5_59 : (Cond.methodLink "DikeWatchLaw" (54 : Nat) ({ cls := "DikeWatchModel", name := "go", desc := "(I)I" } : MethodName)) ∈ W0 := wm5 59 rfl rfl
theorem q5_60 : (Cond.instanceMethod ({ cls := "DikeWatchModel", name := "go", desc := "(I)I" } : MethodName)) ∈ W0 := wm5 60 rfl rfl
theorem q5_61 : (Cond.selects "DikeWatchModel" ({ cls := "DikeWatchModel", name := "go", desc := "(I)I" } : MethodName) ({ cls := "DikeWatchModel", name := "go", desc := "(I)I" } : MethodName)) ∈ W0 := wm5 61 rfl rfl
theorem q5_62 : (Cond.code ({ cls := "DikeWatchModel", name := "go", desc := "(I)I" } : MethodName) prog_11_method_35_code (3 : Nat) (Option.some ClassFile.FieldType.int)) ∈ W0 := wm5 62 rfl rfl
theorem q5_63 : (Cond.constantLong "DikeWatchModel" (187 : Nat) (99 : Int64)) ∈ W0 := wm5 63 rfl rfl
theorem q5_64 : (Cond.methodLink "DikeWatchModel" (189 : Nat) ({ cls := "DikeWatchModel", name := "hour", desc := "(I)V" } : MethodName)) ∈ W0 := wm5 64 rfl rfl
theorem q5_66 : (Cond.instanceMethod ({ cls := "DikeWatchModel", name := "hour", desc := "(I)V" } : MethodName)) ∈ W0 := wm5 66 rfl rfl
theorem q5_67 : (Cond.code ({ cls := "DikeWatchModel", name := "hour", desc := "(I)V" } : MethodName) prog_11_method_34_code (5 : Nat) (Option.none : Option ClassFile.FieldType)) ∈ W0 := wm5 67 rfl rfl
theorem q5_68 : (Cond.methodLink "DikeWatchModel" (184 : Nat) ({ cls := "DikeWatchModel", name := "walk", desc := "(II)V" } : MethodName)) ∈ W0 := wm5 68 rfl rfl
theorem q5_70 : (Cond.instanceMethod ({ cls := "DikeWatchModel", name := "walk", desc := "(II)V" } : MethodName)) ∈ W0 := wm5 70 rfl rfl
theorem q5_71 : (Cond.code ({ cls := "DikeWatchModel", name := "walk", desc := "(II)V" } : MethodName) prog_11_method_33_code (5 : Nat) (Option.none : Option ClassFile.FieldType)) ∈ W0 := wm5 71 rfl rfl
theorem q5_72 : (Cond.methodLink "DikeWatchLaw" (58 : Nat) ({ cls := "DikeWatchModel", name := "fill", desc := "(I)I" } : MethodName)) ∈ W0 := wm5 72 rfl rfl
theorem q5_73 : (Cond.instanceMethod ({ cls := "DikeWatchModel", name := "fill", desc := "(I)I" } : MethodName)) ∈ W0 := wm5 73 rfl rfl
theorem q5_74 : (Cond.selects "DikeWatchModel" ({ cls := "DikeWatchModel", name := "fill", desc := "(I)I" } : MethodName) ({ cls := "DikeWatchModel", name := "fill", desc := "(I)I" } : MethodName)) ∈ W0 := wm5 74 rfl rfl
theorem q5_75 : (Cond.code ({ cls := "DikeWatchModel", name := "fill", desc := "(I)I" } : MethodName) prog_11_method_36_code (8 : Nat) (Option.some ClassFile.FieldType.int)) ∈ W0 := wm5 75 rfl rfl
theorem q5_76 : (Cond.methodLink "DikeWatchModel" (192 : Nat) ({ cls := "DikeWatchModel", name := "isYard", desc := "(I)Z" } : MethodName)) ∈ W0 := wm5 76 rfl rfl
theorem q5_78 : (Cond.instanceMethod ({ cls := "DikeWatchModel", name := "isYard", desc := "(I)Z" } : MethodName)) ∈ W0 := wm5 78 rfl rfl
theorem q5_79 : (Cond.code ({ cls := "DikeWatchModel", name := "isYard", desc := "(I)Z" } : MethodName) prog_11_method_22_code (2 : Nat) (Option.some ClassFile.FieldType.boolean)) ∈ W0 := wm5 79 rfl rfl
theorem q5_80 : (Cond.methodLink "DikeWatchLaw" (62 : Nat) ({ cls := "DikeWatchModel", name := "keep", desc := "(I)I" } : MethodName)) ∈ W0 := wm5 80 rfl rfl
theorem q5_81 : (Cond.instanceMethod ({ cls := "DikeWatchModel", name := "keep", desc := "(I)I" } : MethodName)) ∈ W0 := wm5 81 rfl rfl
theorem q5_82 : (Cond.selects "DikeWatchModel" ({ cls := "DikeWatchModel", name := "keep", desc := "(I)I" } : MethodName) ({ cls := "DikeWatchModel", name := "keep", desc := "(I)I" } : MethodName)) ∈ W0 := wm5 82 rfl rfl
theorem q5_83 : (Cond.code ({ cls := "DikeWatchModel", name := "keep", desc := "(I)I" } : MethodName) prog_11_method_37_code (2 : Nat) (Option.some ClassFile.FieldType.int)) ∈ W0 := wm5 83 rfl rfl
theorem q5_84 : (Cond.methodLink "DikeWatchLaw" (66 : Nat) ({ cls := "DikeWatchModel", name := "back", desc := "(I)I" } : MethodName)) ∈ W0 := wm5 84 rfl rfl
theorem q5_85 : (Cond.instanceMethod ({ cls := "DikeWatchModel", name := "back", desc := "(I)I" } : MethodName)) ∈ W0 := wm5 85 rfl rfl
theorem q5_86 : (Cond.selects "DikeWatchModel" ({ cls := "DikeWatchModel", name := "back", desc := "(I)I" } : MethodName) ({ cls := "DikeWatchModel", name := "back", desc := "(I)I" } : MethodName)) ∈ W0 := wm5 86 rfl rfl
theorem q5_87 : (Cond.code ({ cls := "DikeWatchModel", name := "back", desc := "(I)I" } : MethodName) prog_11_method_38_code (2 : Nat) (Option.some ClassFile.FieldType.int)) ∈ W0 := wm5 87 rfl rfl
theorem q5_88 : (Cond.methodLink "DikeWatchLaw" (71 : Nat) ({ cls := "DikeWatchModel", name := "later", desc := "(III)I" } : MethodName)) ∈ W0 := wm5 88 rfl rfl
theorem q5_89 : (Cond.instanceMethod ({ cls := "DikeWatchModel", name := "later", desc := "(III)I" } : MethodName)) ∈ W0 := wm5 89 rfl rfl
theorem q5_90 : (Cond.selects "DikeWatchModel" ({ cls := "DikeWatchModel", name := "later", desc := "(III)I" } : MethodName) ({ cls := "DikeWatchModel", name := "later", desc := "(III)I" } : MethodName)) ∈ W0 := wm5 90 rfl rfl
theorem q5_91 : (Cond.code ({ cls := "DikeWatchModel", name := "later", desc := "(III)I" } : MethodName) prog_11_method_39_code (5 : Nat) (Option.some ClassFile.FieldType.int)) ∈ W0 := wm5 91 rfl rfl
theorem q5_92 : (Cond.constantLong "DikeWatchModel" (195 : Nat) (2 : Int64)) ∈ W0 := wm5 92 rfl rfl
theorem q5_93 : (Cond.methodLink "DikeWatchLaw" (75 : Nat) ({ cls := "DikeWatchModel", name := "breaks", desc := "(I)I" } : MethodName)) ∈ W0 := wm5 93 rfl rfl
theorem q5_94 : (Cond.instanceMethod ({ cls := "DikeWatchModel", name := "breaks", desc := "(I)I" } : MethodName)) ∈ W0 := wm5 94 rfl rfl
theorem q5_95 : (Cond.selects "DikeWatchModel" ({ cls := "DikeWatchModel", name := "breaks", desc := "(I)I" } : MethodName) ({ cls := "DikeWatchModel", name := "breaks", desc := "(I)I" } : MethodName)) ∈ W0 := wm5 95 rfl rfl
theorem q5_96 : (Cond.code ({ cls := "DikeWatchModel", name := "breaks", desc := "(I)I" } : MethodName) prog_11_method_41_code (2 : Nat) (Option.some ClassFile.FieldType.int)) ∈ W0 := wm5 96 rfl rfl
theorem q5_97 : (Cond.methodLink "DikeWatchModel" (197 : Nat) ({ cls := "DikeWatchModel", name := "breaksIn", desc := "(I)I" } : MethodName)) ∈ W0 := wm5 97 rfl rfl
theorem q5_99 : (Cond.instanceMethod ({ cls := "DikeWatchModel", name := "breaksIn", desc := "(I)I" } : MethodName)) ∈ W0 := wm5 99 rfl rfl
theorem q5_100 : (Cond.code ({ cls := "DikeWatchModel", name := "breaksIn", desc := "(I)I" } : MethodName) prog_11_method_40_code (3 : Nat) (Option.some ClassFile.FieldType.int)) ∈ W0 := wm5 100 rfl rfl
theorem q5_101 : (Cond.methodLink "DikeWatchLaw" (79 : Nat) ({ cls := "DikeWatchModel", name := "missed", desc := "(I)I" } : MethodName)) ∈ W0 := wm5 101 rfl rfl
theorem q5_102 : (Cond.instanceMethod ({ cls := "DikeWatchModel", name := "missed", desc := "(I)I" } : MethodName)) ∈ W0 := wm5 102 rfl rfl
theorem q5_103 : (Cond.selects "DikeWatchModel" ({ cls := "DikeWatchModel", name := "missed", desc := "(I)I" } : MethodName) ({ cls := "DikeWatchModel", name := "missed", desc := "(I)I" } : MethodName)) ∈ W0 := wm5 103 rfl rfl
theorem q5_104 : (Cond.code ({ cls := "DikeWatchModel", name := "missed", desc := "(I)I" } : MethodName) prog_11_method_45_code (2 : Nat) (Option.some ClassFile.FieldType.int)) ∈ W0 := wm5 104 rfl rfl
theorem q5_105 : (Cond.methodLink "DikeWatchModel" (203 : Nat) ({ cls := "DikeWatchModel", name := "layHearers", desc := "()V" } : MethodName)) ∈ W0 := wm5 105 rfl rfl
theorem q5_107 : (Cond.instanceMethod ({ cls := "DikeWatchModel", name := "layHearers", desc := "()V" } : MethodName)) ∈ W0 := wm5 107 rfl rfl
theorem q5_108 : (Cond.code ({ cls := "DikeWatchModel", name := "layHearers", desc := "()V" } : MethodName) prog_11_method_43_code (3 : Nat) (Option.none : Option ClassFile.FieldType)) ∈ W0 := wm5 108 rfl rfl
theorem q5_109 : (Cond.methodLink "DikeWatchModel" (200 : Nat) ({ cls := "DikeWatchModel", name := "heardBy", desc := "(I)I" } : MethodName)) ∈ W0 := wm5 109 rfl rfl
theorem q5_111 : (Cond.instanceMethod ({ cls := "DikeWatchModel", name := "heardBy", desc := "(I)I" } : MethodName)) ∈ W0 := wm5 111 rfl rfl
theorem q5_112 : (Cond.code ({ cls := "DikeWatchModel", name := "heardBy", desc := "(I)I" } : MethodName) prog_11_method_42_code (6 : Nat) (Option.some ClassFile.FieldType.int)) ∈ W0 := wm5 112 rfl rfl
theorem q5_113 : (Cond.methodLink "DikeWatchModel" (206 : Nat) ({ cls := "DikeWatchModel", name := "missedBy", desc := "(I)I" } : MethodName)) ∈ W0 := wm5 113 rfl rfl
theorem q5_115 : (Cond.instanceMethod ({ cls := "DikeWatchModel", name := "missedBy", desc := "(I)I" } : MethodName)) ∈ W0 := wm5 115 rfl rfl
theorem q5_116 : (Cond.code ({ cls := "DikeWatchModel", name := "missedBy", desc := "(I)I" } : MethodName) prog_11_method_44_code (4 : Nat) (Option.some ClassFile.FieldType.int)) ∈ W0 := wm5 116 rfl rfl
theorem q5_117 : (Cond.methodLink "DikeWatchLaw" (83 : Nat) ({ cls := "DikeWatchModel", name := "watch", desc := "(I)I" } : MethodName)) ∈ W0 := wm5 117 rfl rfl
theorem q5_118 : (Cond.instanceMethod ({ cls := "DikeWatchModel", name := "watch", desc := "(I)I" } : MethodName)) ∈ W0 := wm5 118 rfl rfl
theorem q5_119 : (Cond.selects "DikeWatchModel" ({ cls := "DikeWatchModel", name := "watch", desc := "(I)I" } : MethodName) ({ cls := "DikeWatchModel", name := "watch", desc := "(I)I" } : MethodName)) ∈ W0 := wm5 119 rfl rfl
theorem q5_120 : (Cond.code ({ cls := "DikeWatchModel", name := "watch", desc := "(I)I" } : MethodName) prog_11_method_46_code (4 : Nat) (Option.some ClassFile.FieldType.int)) ∈ W0 := wm5 120 rfl rfl
theorem q5_121 : (Cond.methodLink "DikeWatchModel" (209 : Nat) ({ cls := "DikeWatchModel", name := "bits", desc := "(I)I" } : MethodName)) ∈ W0 := wm5 121 rfl rfl
theorem q5_122 : (Cond.static ({ cls := "DikeWatchModel", name := "bits", desc := "(I)I" } : MethodName)) ∈ W0 := wm5 122 rfl rfl
theorem q5_123 : (Cond.code ({ cls := "DikeWatchModel", name := "bits", desc := "(I)I" } : MethodName) prog_11_method_4_code (3 : Nat) (Option.some ClassFile.FieldType.int)) ∈ W0 := wm5 123 rfl rfl
theorem q5_124 : (Cond.methodLink "DikeWatchLaw" (87 : Nat) ({ cls := "DikeWatchModel", name := "order", desc := "(III)I" } : MethodName)) ∈ W0 := wm5 124 rfl rfl
theorem q5_125 : (Cond.instanceMethod ({ cls := "DikeWatchModel", name := "order", desc := "(III)I" } : MethodName)) ∈ W0 := wm5 125 rfl rfl
theorem q5_126 : (Cond.selects "DikeWatchModel" ({ cls := "DikeWatchModel", name := "order", desc := "(III)I" } : MethodName) ({ cls := "DikeWatchModel", name := "order", desc := "(III)I" } : MethodName)) ∈ W0 := wm5 126 rfl rfl
theorem q5_127 : (Cond.code ({ cls := "DikeWatchModel", name := "order", desc := "(III)I" } : MethodName) prog_11_method_49_code (9 : Nat) (Option.some ClassFile.FieldType.int)) ∈ W0 := wm5 127 rfl rfl
theorem q5_128 : (Cond.methodLink "DikeWatchModel" (218 : Nat) ({ cls := "DikeWatchModel", name := "lostBy", desc := "(II)I" } : MethodName)) ∈ W0 := wm5 128 rfl rfl
theorem q5_130 : (Cond.instanceMethod ({ cls := "DikeWatchModel", name := "lostBy", desc := "(II)I" } : MethodName)) ∈ W0 := wm5 130 rfl rfl
theorem q5_131 : (Cond.code ({ cls := "DikeWatchModel", name := "lostBy", desc := "(II)I" } : MethodName) prog_11_method_48_code (8 : Nat) (Option.some ClassFile.FieldType.int)) ∈ W0 := wm5 131 rfl rfl
theorem q5_132 : (Cond.methodLink "DikeWatchModel" (215 : Nat) ({ cls := "DikeWatchModel", name := "rowOf", desc := "(II)I" } : MethodName)) ∈ W0 := wm5 132 rfl rfl
theorem q5_134 : (Cond.instanceMethod ({ cls := "DikeWatchModel", name := "rowOf", desc := "(II)I" } : MethodName)) ∈ W0 := wm5 134 rfl rfl
theorem q5_135 : (Cond.code ({ cls := "DikeWatchModel", name := "rowOf", desc := "(II)I" } : MethodName) prog_11_method_47_code (9 : Nat) (Option.some ClassFile.FieldType.int)) ∈ W0 := wm5 135 rfl rfl
theorem q5_136 : (Cond.methodLink "DikeWatchLaw" (92 : Nat) ({ cls := "DikeWatchModel", name := "storms", desc := "(IIII)J" } : MethodName)) ∈ W0 := wm5 136 rfl rfl
theorem q5_137 : (Cond.instanceMethod ({ cls := "DikeWatchModel", name := "storms", desc := "(IIII)J" } : MethodName)) ∈ W0 := wm5 137 rfl rfl
theorem q5_138 : (Cond.selects "DikeWatchModel" ({ cls := "DikeWatchModel", name := "storms", desc := "(IIII)J" } : MethodName) ({ cls := "DikeWatchModel", name := "storms", desc := "(IIII)J" } : MethodName)) ∈ W0 := wm5 138 rfl rfl
theorem q5_139 : (Cond.code ({ cls := "DikeWatchModel", name := "storms", desc := "(IIII)J" } : MethodName) prog_11_method_52_code (17 : Nat) (Option.some ClassFile.FieldType.long)) ∈ W0 := wm5 139 rfl rfl
theorem q5_140 : (Cond.constantLong "DikeWatchModel" (221 : Nat) (-2 : Int64)) ∈ W0 := wm5 140 rfl rfl
theorem q5_141 : (Cond.constantLong "DikeWatchModel" (223 : Nat) (18 : Int64)) ∈ W0 := wm5 141 rfl rfl
theorem q5_142 : (Cond.constantLong "DikeWatchModel" (225 : Nat) (10 : Int64)) ∈ W0 := wm5 142 rfl rfl
theorem q5_143 : (Cond.constantLong "DikeWatchModel" (227 : Nat) (-3 : Int64)) ∈ W0 := wm5 143 rfl rfl
theorem q5_144 : (Cond.constantLong "DikeWatchModel" (229 : Nat) (-4 : Int64)) ∈ W0 := wm5 144 rfl rfl
theorem q5_145 : (Cond.methodLink "DikeWatchModel" (231 : Nat) ({ cls := "DikeWatchModel", name := "growths", desc := "(I)I" } : MethodName)) ∈ W0 := wm5 145 rfl rfl
theorem q5_147 : (Cond.instanceMethod ({ cls := "DikeWatchModel", name := "growths", desc := "(I)I" } : MethodName)) ∈ W0 := wm5 147 rfl rfl
theorem q5_148 : (Cond.code ({ cls := "DikeWatchModel", name := "growths", desc := "(I)I" } : MethodName) prog_11_method_51_code (4 : Nat) (Option.some ClassFile.FieldType.int)) ∈ W0 := wm5 148 rfl rfl
theorem q5_149 : (Cond.methodLink "DikeWatchModel" (234 : Nat) ({ cls := "DikeWatchModel", name := "power", desc := "(JI)J" } : MethodName)) ∈ W0 := wm5 149 rfl rfl
theorem q5_150 : (Cond.static ({ cls := "DikeWatchModel", name := "power", desc := "(JI)J" } : MethodName)) ∈ W0 := wm5 150 rfl rfl
theorem q5_151 : (Cond.code ({ cls := "DikeWatchModel", name := "power", desc := "(JI)J" } : MethodName) prog_11_method_50_code (6 : Nat) (Option.some ClassFile.FieldType.long)) ∈ W0 := wm5 151 rfl rfl
theorem q5_152 : (Cond.methodLink "DikeWatchLaw" (96 : Nat) ({ cls := "DikeWatchModel", name := "guard", desc := "(II)I" } : MethodName)) ∈ W0 := wm5 152 rfl rfl
theorem q5_153 : (Cond.instanceMethod ({ cls := "DikeWatchModel", name := "guard", desc := "(II)I" } : MethodName)) ∈ W0 := wm5 153 rfl rfl
theorem q5_154 : (Cond.selects "DikeWatchModel" ({ cls := "DikeWatchModel", name := "guard", desc := "(II)I" } : MethodName) ({ cls := "DikeWatchModel", name := "guard", desc := "(II)I" } : MethodName)) ∈ W0 := wm5 154 rfl rfl
theorem q5_155 : (Cond.code ({ cls := "DikeWatchModel", name := "guard", desc := "(II)I" } : MethodName) prog_11_method_53_code (5 : Nat) (Option.some ClassFile.FieldType.int)) ∈ W0 := wm5 155 rfl rfl
theorem q5_156 : (Cond.constantLong "DikeWatchModel" (238 : Nat) (9 : Int64)) ∈ W0 := wm5 156 rfl rfl
theorem q5_157 : (Cond.methodLink "DikeWatchLaw" (100 : Nat) ({ cls := "DikeWatchModel", name := "seen", desc := "(III)I" } : MethodName)) ∈ W0 := wm5 157 rfl rfl
theorem q5_158 : (Cond.instanceMethod ({ cls := "DikeWatchModel", name := "seen", desc := "(III)I" } : MethodName)) ∈ W0 := wm5 158 rfl rfl
theorem q5_159 : (Cond.selects "DikeWatchModel" ({ cls := "DikeWatchModel", name := "seen", desc := "(III)I" } : MethodName) ({ cls := "DikeWatchModel", name := "seen", desc := "(III)I" } : MethodName)) ∈ W0 := wm5 159 rfl rfl
theorem q5_160 : (Cond.code ({ cls := "DikeWatchModel", name := "seen", desc := "(III)I" } : MethodName) prog_11_method_55_code (4 : Nat) (Option.some ClassFile.FieldType.int)) ∈ W0 := wm5 160 rfl rfl
theorem q5_161 : (Cond.methodLink "DikeWatchModel" (240 : Nat) ({ cls := "DikeWatchModel", name := "see", desc := "(III)I" } : MethodName)) ∈ W0 := wm5 161 rfl rfl
theorem q5_163 : (Cond.instanceMethod ({ cls := "DikeWatchModel", name := "see", desc := "(III)I" } : MethodName)) ∈ W0 := wm5 163 rfl rfl
theorem q5_164 : (Cond.code ({ cls := "DikeWatchModel", name := "see", desc := "(III)I" } : MethodName) prog_11_method_54_code (4 : Nat) (Option.some ClassFile.FieldType.int)) ∈ W0 := wm5 164 rfl rfl
theorem q5_165 : (Cond.methodLink "DikeWatchLaw" (104 : Nat) ({ cls := "DikeWatchModel", name := "paid", desc := "(II)I" } : MethodName)) ∈ W0 := wm5 165 rfl rfl
theorem q5_166 : (Cond.instanceMethod ({ cls := "DikeWatchModel", name := "paid", desc := "(II)I" } : MethodName)) ∈ W0 := wm5 166 rfl rfl
theorem q5_167 : (Cond.selects "DikeWatchModel" ({ cls := "DikeWatchModel", name := "paid", desc := "(II)I" } : MethodName) ({ cls := "DikeWatchModel", name := "paid", desc := "(II)I" } : MethodName)) ∈ W0 := wm5 167 rfl rfl
theorem q5_168 : (Cond.code ({ cls := "DikeWatchModel", name := "paid", desc := "(II)I" } : MethodName) prog_11_method_56_code (3 : Nat) (Option.some ClassFile.FieldType.int)) ∈ W0 := wm5 168 rfl rfl
theorem q5_169 : (Cond.methodLink "DikeWatchLaw" (108 : Nat) ({ cls := "DikeWatchModel", name := "forget", desc := "()I" } : MethodName)) ∈ W0 := wm5 169 rfl rfl
theorem q5_170 : (Cond.instanceMethod ({ cls := "DikeWatchModel", name := "forget", desc := "()I" } : MethodName)) ∈ W0 := wm5 170 rfl rfl
theorem q5_171 : (Cond.selects "DikeWatchModel" ({ cls := "DikeWatchModel", name := "forget", desc := "()I" } : MethodName) ({ cls := "DikeWatchModel", name := "forget", desc := "()I" } : MethodName)) ∈ W0 := wm5 171 rfl rfl
theorem q5_172 : (Cond.code ({ cls := "DikeWatchModel", name := "forget", desc := "()I" } : MethodName) prog_11_method_57_code (2 : Nat) (Option.some ClassFile.FieldType.int)) ∈ W0 := wm5 172 rfl rfl
theorem q5_173 : (Cond.methodLink "DikeWatchLaw" (112 : Nat) ({ cls := "DikeWatchModel", name := "where", desc := "()I" } : MethodName)) ∈ W0 := wm5 173 rfl rfl
theorem q5_174 : (Cond.instanceMethod ({ cls := "DikeWatchModel", name := "where", desc := "()I" } : MethodName)) ∈ W0 := wm5 174 rfl rfl
theorem q5_175 : (Cond.selects "DikeWatchModel" ({ cls := "DikeWatchModel", name := "where", desc := "()I" } : MethodName) ({ cls := "DikeWatchModel", name := "where", desc := "()I" } : MethodName)) ∈ W0 := wm5 175 rfl rfl
theorem q5_176 : (Cond.code ({ cls := "DikeWatchModel", name := "where", desc := "()I" } : MethodName) prog_11_method_60_code (1 : Nat) (Option.some ClassFile.FieldType.int)) ∈ W0 := wm5 176 rfl rfl
theorem q5_177 : (Cond.methodLink "DikeWatchModel" (246 : Nat) ({ cls := "DikeWatchModel", name := "placesOf", desc := "()I" } : MethodName)) ∈ W0 := wm5 177 rfl rfl
theorem q5_179 : (Cond.instanceMethod ({ cls := "DikeWatchModel", name := "placesOf", desc := "()I" } : MethodName)) ∈ W0 := wm5 179 rfl rfl
theorem q5_180 : (Cond.code ({ cls := "DikeWatchModel", name := "placesOf", desc := "()I" } : MethodName) prog_11_method_59_code (3 : Nat) (Option.some ClassFile.FieldType.int)) ∈ W0 := wm5 180 rfl rfl
theorem q5_181 : (Cond.methodLink "DikeWatchModel" (243 : Nat) ({ cls := "DikeWatchModel", name := "canBe", desc := "(I)Z" } : MethodName)) ∈ W0 := wm5 181 rfl rfl
theorem q5_183 : (Cond.instanceMethod ({ cls := "DikeWatchModel", name := "canBe", desc := "(I)Z" } : MethodName)) ∈ W0 := wm5 183 rfl rfl
theorem q5_184 : (Cond.code ({ cls := "DikeWatchModel", name := "canBe", desc := "(I)Z" } : MethodName) prog_11_method_58_code (7 : Nat) (Option.some ClassFile.FieldType.boolean)) ∈ W0 := wm5 184 rfl rfl
theorem q5_185 : (Cond.methodLink "DikeWatchLaw" (116 : Nat) ({ cls := "DikeWatchModel", name := "next", desc := "(I)I" } : MethodName)) ∈ W0 := wm5 185 rfl rfl
theorem q5_186 : (Cond.instanceMethod ({ cls := "DikeWatchModel", name := "next", desc := "(I)I" } : MethodName)) ∈ W0 := wm5 186 rfl rfl
theorem q5_187 : (Cond.selects "DikeWatchModel" ({ cls := "DikeWatchModel", name := "next", desc := "(I)I" } : MethodName) ({ cls := "DikeWatchModel", name := "next", desc := "(I)I" } : MethodName)) ∈ W0 := wm5 187 rfl rfl
theorem q5_188 : (Cond.code ({ cls := "DikeWatchModel", name := "next", desc := "(I)I" } : MethodName) prog_11_method_61_code (8 : Nat) (Option.some ClassFile.FieldType.int)) ∈ W0 := wm5 188 rfl rfl
theorem q5_189 : (Cond.methodLink "DikeWatchLaw" (120 : Nat) ({ cls := "DikeWatchModel", name := "count", desc := "(I)I" } : MethodName)) ∈ W0 := wm5 189 rfl rfl
theorem q5_190 : (Cond.instanceMethod ({ cls := "DikeWatchModel", name := "count", desc := "(I)I" } : MethodName)) ∈ W0 := wm5 190 rfl rfl
theorem q5_191 : (Cond.selects "DikeWatchModel" ({ cls := "DikeWatchModel", name := "count", desc := "(I)I" } : MethodName) ({ cls := "DikeWatchModel", name := "count", desc := "(I)I" } : MethodName)) ∈ W0 := wm5 191 rfl rfl
theorem q5_192 : (Cond.code ({ cls := "DikeWatchModel", name := "count", desc := "(I)I" } : MethodName) prog_11_method_62_code (4 : Nat) (Option.some ClassFile.FieldType.int)) ∈ W0 := wm5 192 rfl rfl
theorem q5_193 : (Cond.constantLong "DikeWatchLaw" (13 : Nat) (4294967295 : Int64)) ∈ W0 := wm5 193 rfl rfl
theorem q5_194 : (Cond.fieldLink "java/lang/String" (9 : Nat) "java/lang/String" "value" "[B") ∈ W0 := wm5 194 rfl rfl
theorem q5_195 : (Cond.fieldLink "java/lang/String" (15 : Nat) "java/lang/String" "coder" "B") ∈ W0 := wm5 195 rfl rfl
theorem in_X0 : ∀ w ∈ wsX00, w ∈ W0 := List.forall_mem_cons.mpr ⟨wm2 14 rfl rfl, List.forall_mem_cons.mpr ⟨wm2 16 rfl rfl, List.forall_mem_cons.mpr ⟨wm2 18 rfl rfl, fun _ h => absurd h List.not_mem_nil⟩⟩⟩
theorem in_X1 : ∀ w ∈ wsX10, w ∈ W0 := List.forall_mem_cons.mpr ⟨wm1 158 rfl rfl, List.forall_mem_cons.mpr ⟨wm1 160 rfl rfl, List.forall_mem_cons.mpr ⟨wm1 162 rfl rfl, List.forall_mem_cons.mpr ⟨wm1 164 rfl rfl, List.forall_mem_cons.mpr ⟨wm1 166 rfl rfl, fun _ h => absurd h List.not_mem_nil⟩⟩⟩⟩⟩
theorem in_X2 : ∀ w ∈ wsX20, w ∈ W0 := List.forall_mem_cons.mpr ⟨wm1 209 rfl rfl, List.forall_mem_cons.mpr ⟨wm1 211 rfl rfl, List.forall_mem_cons.mpr ⟨wm1 213 rfl rfl, List.forall_mem_cons.mpr ⟨wm1 215 rfl rfl, List.forall_mem_cons.mpr ⟨wm1 217 rfl rfl, List.forall_mem_cons.mpr ⟨wm1 219 rfl rfl, List.forall_mem_cons.mpr ⟨wm1 221 rfl rfl, fun _ h => absurd h List.not_mem_nil⟩⟩⟩⟩⟩⟩⟩
theorem in_X3 : ∀ w ∈ wsX30, w ∈ W0 := List.forall_mem_cons.mpr ⟨wm1 132 rfl rfl, List.forall_mem_cons.mpr ⟨wm1 134 rfl rfl, List.forall_mem_cons.mpr ⟨wm1 136 rfl rfl, List.forall_mem_cons.mpr ⟨wm1 138 rfl rfl, List.forall_mem_cons.mpr ⟨wm1 140 rfl rfl, List.forall_mem_cons.mpr ⟨wm1 142 rfl rfl, List.forall_mem_cons.mpr ⟨wm1 144 rfl rfl, fun _ h => absurd h List.not_mem_nil⟩⟩⟩⟩⟩⟩⟩
theorem in_X4 : ∀ w ∈ wsX40, w ∈ W0 := List.forall_mem_cons.mpr ⟨wm1 182 rfl rfl, List.forall_mem_cons.mpr ⟨wm1 184 rfl rfl, List.forall_mem_cons.mpr ⟨wm1 186 rfl rfl, List.forall_mem_cons.mpr ⟨wm1 188 rfl rfl, List.forall_mem_cons.mpr ⟨wm1 190 rfl rfl, List.forall_mem_cons.mpr ⟨wm1 192 rfl rfl, fun _ h => absurd h List.not_mem_nil⟩⟩⟩⟩⟩⟩
theorem in_X5 : ∀ w ∈ wsX50, w ∈ W0 := List.forall_mem_cons.mpr ⟨wm1 235 rfl rfl, List.forall_mem_cons.mpr ⟨wm1 237 rfl rfl, List.forall_mem_cons.mpr ⟨wm1 239 rfl rfl, fun _ h => absurd h List.not_mem_nil⟩⟩⟩
theorem in_X6 : ∀ w ∈ wsX60, w ∈ W0 := List.forall_mem_cons.mpr ⟨wm1 37 rfl rfl, List.forall_mem_cons.mpr ⟨wm1 39 rfl rfl, fun _ h => absurd h List.not_mem_nil⟩⟩
theorem in_X7 : ∀ w ∈ wsX70, w ∈ W0 := List.forall_mem_cons.mpr ⟨wm1 86 rfl rfl, List.forall_mem_cons.mpr ⟨wm1 88 rfl rfl, List.forall_mem_cons.mpr ⟨wm1 90 rfl rfl, List.forall_mem_cons.mpr ⟨wm1 92 rfl rfl, List.forall_mem_cons.mpr ⟨wm1 94 rfl rfl, List.forall_mem_cons.mpr ⟨wm1 96 rfl rfl, List.forall_mem_cons.mpr ⟨wm1 98 rfl rfl, List.forall_mem_cons.mpr ⟨wm1 100 rfl rfl, List.forall_mem_cons.mpr ⟨wm1 102 rfl rfl, List.forall_mem_cons.mpr ⟨wm1 104 rfl rfl, List.forall_mem_cons.mpr ⟨wm1 106 rfl rfl, List.forall_mem_cons.mpr ⟨wm1 108 rfl rfl, fun _ h => absurd h List.not_mem_nil⟩⟩⟩⟩⟩⟩⟩⟩⟩⟩⟩⟩
theorem in_X8 : ∀ w ∈ wsX80, w ∈ W0 := List.forall_mem_cons.mpr ⟨wm2 33 rfl rfl, List.forall_mem_cons.mpr ⟨wm2 35 rfl rfl, List.forall_mem_cons.mpr ⟨wm2 37 rfl rfl, List.forall_mem_cons.mpr ⟨wm2 39 rfl rfl, List.forall_mem_cons.mpr ⟨wm2 41 rfl rfl, List.forall_mem_cons.mpr ⟨wm2 43 rfl rfl, List.forall_mem_cons.mpr ⟨wm2 45 rfl rfl, List.forall_mem_cons.mpr ⟨wm2 47 rfl rfl, List.forall_mem_cons.mpr ⟨wm2 49 rfl rfl, List.forall_mem_cons.mpr ⟨wm2 51 rfl rfl, List.forall_mem_cons.mpr ⟨wm2 53 rfl rfl, List.forall_mem_cons.mpr ⟨wm2 55 rfl rfl, fun _ h => absurd h List.not_mem_nil⟩⟩⟩⟩⟩⟩⟩⟩⟩⟩⟩⟩
theorem in_X9 : ∀ w ∈ wsX90, w ∈ W0 := List.forall_mem_cons.mpr ⟨wm4 119 rfl rfl, List.forall_mem_cons.mpr ⟨wm4 121 rfl rfl, List.forall_mem_cons.mpr ⟨wm4 123 rfl rfl, List.forall_mem_cons.mpr ⟨wm4 125 rfl rfl, List.forall_mem_cons.mpr ⟨wm4 127 rfl rfl, List.forall_mem_cons.mpr ⟨wm4 129 rfl rfl, List.forall_mem_cons.mpr ⟨wm4 131 rfl rfl, List.forall_mem_cons.mpr ⟨wm4 133 rfl rfl, List.forall_mem_cons.mpr ⟨wm4 135 rfl rfl, List.forall_mem_cons.mpr ⟨wm4 137 rfl rfl, List.forall_mem_cons.mpr ⟨wm4 139 rfl rfl, List.forall_mem_cons.mpr ⟨wm4 141 rfl rfl, List.forall_mem_cons.mpr ⟨wm4 143 rfl rfl, List.forall_mem_cons.mpr ⟨wm4 145 rfl rfl, List.forall_mem_cons.mpr ⟨wm4 147 rfl rfl, List.forall_mem_cons.mpr ⟨wm4 149 rfl rfl, List.forall_mem_cons.mpr ⟨wm4 151 rfl rfl, List.forall_mem_cons.mpr ⟨wm4 153 rfl rfl, List.forall_mem_cons.mpr ⟨wm4 155 rfl rfl, List.forall_mem_cons.mpr ⟨wm4 157 rfl rfl, List.forall_mem_cons.mpr ⟨wm4 159 rfl rfl, List.forall_mem_cons.mpr ⟨wm4 161 rfl rfl, List.forall_mem_cons.mpr ⟨wm4 163 rfl rfl, List.forall_mem_cons.mpr ⟨wm4 165 rfl rfl, List.forall_mem_cons.mpr ⟨wm4 167 rfl rfl, List.forall_mem_cons.mpr ⟨wm4 169 rfl rfl, fun _ h => absurd h List.not_mem_nil⟩⟩⟩⟩⟩⟩⟩⟩⟩⟩⟩⟩⟩⟩⟩⟩⟩⟩⟩⟩⟩⟩⟩⟩⟩⟩
/-! word lists: a method's own code, then W0 -/
theorem w0_in {c w : Cond} (h : w ∈ W0) : w ∈ c :: W0 := List.mem_cons_of_mem _ h
theorem w0_pay {c w : Cond} (h : w ∈ W0) : w ∈ c :: W0 ∧ ((w.onTables && w.keeps) = true ∨ ∃ ty, w = .arrayClass ty) := ⟨w0_in h, good_of_word (W0_good h)⟩
theorem w0_all {c d : Cond} (hd : d ∈ W0) : GoodIn (c :: W0) (d :: W0) := fun w hw => (List.mem_cons.mp hw).elim (fun e => e ▸ w0_pay hd) w0_pay
theorem w0_V {c d : Cond} {own : String} {idx : Nat} {C : String} {y : MethodName} (hd : d ∈ W0) (h1 : Cond.methodLink own idx y ∈ W0) (h2 : Cond.instanceMethod y ∈ W0) (h3 : Cond.selects C y y ∈ W0) (h4 : Cond.initialized C ∈ W0) : GoodIn (c :: W0) (wsV own idx C y (d :: W0)) := by
  intro w hw
  unfold wsV at hw
  rcases List.mem_append.mp hw with h | h
  · simp only [List.mem_cons, List.not_mem_nil, or_false] at h
    rcases h with rfl | rfl | rfl | rfl
    · exact w0_pay h1
    · exact w0_pay h2
    · exact w0_pay h3
    · exact w0_pay h4
  · exact w0_all hd w h
theorem w0_S {c d : Cond} {own : String} {idx : Nat} {y : MethodName} (hd : d ∈ W0) (h1 : Cond.methodLink own idx y ∈ W0) (h2 : Cond.static y ∈ W0) (h4 : Cond.initialized y.cls ∈ W0) : GoodIn (c :: W0) (va_wsS own idx y (d :: W0)) := by
  intro w hw
  unfold va_wsS at hw
  rcases List.mem_append.mp hw with h | h
  · simp only [List.mem_cons, List.not_mem_nil, or_false] at h
    rcases h with rfl | rfl | rfl
    · exact w0_pay h1
    · exact w0_pay h2
    · exact w0_pay h4
  · exact w0_all hd w h
end
section
theorem dq {cc : ByteArray} {l : List (Nat × Instr × Nat)} (h : ∀ q ∈ l, decode cc q.1 = .ok q.2) (i : Nat) {pc n : Nat} {op : Instr} (hi : l[i]? = some (pc, op, n)) : decode cc pc = .ok (op, n) := h (pc, op, n) (List.mem_of_getElem? hi)
theorem dt_X0_init : ∀ q ∈ ([(0, .aload_n 0, 1), (1, .invokespecial 3, 3), (4, .aload_n 0, 1), (5, .bipush 12, 2), (7, .putfield 9, 3), (10, .aload_n 0, 1), (11, .iconst 0, 1), (12, .putfield 15, 3), (15, .aload_n 0, 1), (16, .sipush 4095, 3), (19, .putfield 18, 3), (22, .return_, 1)] : List (Nat × Instr × Nat)), decode cX0_init q.1 = .ok q.2 := by decide +kernel
theorem dt_X0_begin : ∀ q ∈ ([(0, .aload_n 0, 1), (1, .iload_n 1, 1), (2, .putfield 9, 3), (5, .aload_n 0, 1), (6, .iconst 0, 1), (7, .putfield 15, 3), (10, .aload_n 0, 1), (11, .iconst 1, 1), (12, .iload_n 1, 1), (13, .ishl, 1), (14, .iconst 1, 1), (15, .isub, 1), (16, .putfield 18, 3), (19, .return_, 1)] : List (Nat × Instr × Nat)), decode cX0_begin q.1 = .ok q.2 := by decide +kernel
theorem dt_X0_add : ∀ q ∈ ([(0, .aload_n 0, 1), (1, .getfield 15, 3), (4, .bipush 9, 2), (6, .if_icmp .lt 6, 3), (9, .bipush (-5), 2), (11, .ireturn, 1), (12, .aload_n 0, 1), (13, .dup, 1), (14, .getfield 18, 3), (17, .iload_n 1, 1), (18, .iand, 1), (19, .putfield 18, 3), (22, .aload_n 0, 1), (23, .dup, 1), (24, .getfield 15, 3), (27, .iconst 1, 1), (28, .iadd, 1), (29, .putfield 15, 3), (32, .aload_n 0, 1), (33, .getfield 15, 3), (36, .ireturn, 1)] : List (Nat × Instr × Nat)), decode cX0_add q.1 = .ok q.2 := by decide +kernel
theorem dt_X0_yardsInEar : ∀ q ∈ ([(0, .iconst 0, 1), (1, .istore_n 3, 1), (2, .iconst 0, 1), (3, .istore 4, 2), (5, .iload 4, 2), (7, .aload_n 0, 1), (8, .getfield 9, 3), (11, .if_icmp .ge 30, 3), (14, .iload_n 3, 1), (15, .iload_n 2, 1), (16, .iload_n 1, 1), (17, .iload 4, 2), (19, .invokestatic 21, 3), (22, .ifCond .eq 10, 3), (25, .iconst 1, 1), (26, .iload 4, 2), (28, .ishl, 1), (29, .goto 4, 3), (32, .iconst 0, 1), (33, .ior, 1), (34, .istore_n 3, 1), (35, .iinc 4 1, 3), (38, .goto (-33), 3), (41, .iload_n 3, 1), (42, .ireturn, 1)] : List (Nat × Instr × Nat)), decode cX0_yardsInEar q.1 = .ok q.2 := by decide +kernel
theorem dt_X0_yardsPaying : ∀ q ∈ ([(0, .iconst 0, 1), (1, .istore_n 3, 1), (2, .iconst 0, 1), (3, .istore 4, 2), (5, .iload 4, 2), (7, .aload_n 0, 1), (8, .getfield 9, 3), (11, .if_icmp .ge 30, 3), (14, .iload_n 3, 1), (15, .iload_n 1, 1), (16, .iload 4, 2), (18, .invokestatic 25, 3), (21, .iload_n 2, 1), (22, .if_icmp .ne 10, 3), (25, .iconst 1, 1), (26, .iload 4, 2), (28, .ishl, 1), (29, .goto 4, 3), (32, .iconst 0, 1), (33, .ior, 1), (34, .istore_n 3, 1), (35, .iinc 4 1, 3), (38, .goto (-33), 3), (41, .iload_n 3, 1), (42, .ireturn, 1)] : List (Nat × Instr × Nat)), decode cX0_yardsPaying q.1 = .ok q.2 := by decide +kernel
theorem dt_X0_surestYard : ∀ q ∈ ([(0, .iconst (-1), 1), (1, .istore_n 2, 1), (2, .bipush 25, 2), (4, .istore_n 3, 1), (5, .iconst 0, 1), (6, .istore 4, 2), (8, .iload 4, 2), (10, .aload_n 0, 1), (11, .getfield 9, 3), (14, .if_icmp .ge 62, 3), (17, .aload_n 0, 1), (18, .getfield 18, 3), (21, .ifCond .eq 55, 3), (24, .aload_n 0, 1), (25, .getfield 18, 3), (28, .aload_n 0, 1), (29, .iload 4, 2), (31, .iload_n 1, 1), (32, .invokevirtual 29, 3), (35, .iand, 1), (36, .invokestatic 32, 3), (39, .istore 5, 2), (41, .iload 5, 2), (43, .aload_n 0, 1), (44, .getfield 18, 3), (47, .invokestatic 32, 3), (50, .iload 5, 2), (52, .isub, 1), (53, .invokestatic 38, 3), (56, .istore 6, 2), (58, .iload 6, 2), (60, .iload_n 3, 1), (61, .if_icmp .ge 9, 3), (64, .iload 4, 2), (66, .istore_n 2, 1), (67, .iload 6, 2), (69, .istore_n 3, 1), (70, .iinc 4 1, 3), (73, .goto (-65), 3), (76, .iload_n 2, 1), (77, .ireturn, 1)] : List (Nat × Instr × Nat)), decode cX0_surestYard q.1 = .ok q.2 := by decide +kernel
theorem dt_X1_init : ∀ q ∈ ([(0, .aload_n 0, 1), (1, .invokespecial 3, 3), (4, .aload_n 0, 1), (5, .bipush 6, 2), (7, .newarray .int, 2), (9, .putfield 9, 3), (12, .aload_n 0, 1), (13, .iconst 5, 1), (14, .newarray .int, 2), (16, .putfield 15, 3), (19, .aload_n 0, 1), (20, .aload_n 1, 1), (21, .putfield 18, 3), (24, .aload_n 0, 1), (25, .aload_n 2, 1), (26, .putfield 22, 3), (29, .aload_n 0, 1), (30, .aload_n 3, 1), (31, .putfield 26, 3), (34, .return_, 1)] : List (Nat × Instr × Nat)), decode cX1_init q.1 = .ok q.2 := by decide +kernel
theorem dt_X1_nightIn : ∀ q ∈ ([(0, .aload_n 0, 1), (1, .getfield 26, 3), (4, .aload_n 0, 1), (5, .getfield 22, 3), (8, .invokevirtual 29, 3), (11, .aload_n 0, 1), (12, .getfield 26, 3), (15, .iload_n 1, 1), (16, .invokevirtual 35, 3), (19, .aload_n 0, 1), (20, .getfield 26, 3), (23, .areturn, 1)] : List (Nat × Instr × Nat)), decode cX1_nightIn q.1 = .ok q.2 := by decide +kernel
theorem dt_X1_hoursToBreak : ∀ q ∈ ([(0, .aload_n 0, 1), (1, .getfield 22, 3), (4, .getfield 39, 3), (7, .iload_n 1, 1), (8, .iaload, 1), (9, .istore_n 2, 1), (10, .iconst 0, 1), (11, .istore_n 3, 1), (12, .iload_n 3, 1), (13, .sipush 999, 3), (16, .if_icmp .gt 36, 3), (19, .iload_n 2, 1), (20, .bipush 100, 2), (22, .if_icmp .lt 5, 3), (25, .iload_n 3, 1), (26, .ireturn, 1), (27, .aload_n 0, 1), (28, .getfield 18, 3), (31, .iload_n 1, 1), (32, .iload_n 2, 1), (33, .aload_n 0, 1), (34, .getfield 22, 3), (37, .getfield 42, 3), (40, .iload_n 3, 1), (41, .iadd, 1), (42, .invokevirtual 46, 3), (45, .istore_n 2, 1), (46, .iinc 3 1, 3), (49, .goto (-37), 3), (52, .iconst (-1), 1), (53, .ireturn, 1)] : List (Nat × Instr × Nat)), decode cX1_hoursToBreak q.1 = .ok q.2 := by decide +kernel
theorem dt_X1_findBreaking : ∀ q ∈ ([(0, .iconst 0, 1), (1, .istore_n 1, 1), (2, .iconst 0, 1), (3, .istore_n 2, 1), (4, .iload_n 2, 1), (5, .aload_n 0, 1), (6, .getfield 18, 3), (9, .getfield 52, 3), (12, .if_icmp .ge 54, 3), (15, .aload_n 0, 1), (16, .getfield 9, 3), (19, .iload_n 2, 1), (20, .aload_n 0, 1), (21, .getfield 22, 3), (24, .iload_n 2, 1), (25, .invokevirtual 55, 3), (28, .ifCond .eq 7, 3), (31, .iconst (-1), 1), (32, .goto 8, 3), (35, .aload_n 0, 1), (36, .iload_n 2, 1), (37, .invokevirtual 59, 3), (40, .iastore, 1), (41, .iload_n 1, 1), (42, .aload_n 0, 1), (43, .getfield 9, 3), (46, .iload_n 2, 1), (47, .iaload, 1), (48, .ifCond .le 9, 3), (51, .iconst 1, 1), (52, .iload_n 2, 1), (53, .ishl, 1), (54, .goto 4, 3), (57, .iconst 0, 1), (58, .ior, 1), (59, .istore_n 1, 1), (60, .iinc 2 1, 3), (63, .goto (-59), 3), (66, .iload_n 1, 1), (67, .ireturn, 1)] : List (Nat × Instr × Nat)), decode cX1_findBreaking q.1 = .ok q.2 := by decide +kernel
theorem dt_X1_lastBreakHour : ∀ q ∈ ([(0, .iconst 0, 1), (1, .istore_n 2, 1), (2, .iconst 0, 1), (3, .istore_n 3, 1), (4, .iload_n 3, 1), (5, .aload_n 0, 1), (6, .getfield 18, 3), (9, .getfield 52, 3), (12, .if_icmp .ge 32, 3), (15, .iload_n 1, 1), (16, .iload_n 3, 1), (17, .invokestatic 63, 3), (20, .ifCond .eq 16, 3), (23, .iload_n 2, 1), (24, .aload_n 0, 1), (25, .getfield 9, 3), (28, .iload_n 3, 1), (29, .iaload, 1), (30, .invokestatic 67, 3), (33, .goto 4, 3), (36, .iload_n 2, 1), (37, .istore_n 2, 1), (38, .iinc 3 1, 3), (41, .goto (-37), 3), (44, .iload_n 2, 1), (45, .ireturn, 1)] : List (Nat × Instr × Nat)), decode cX1_lastBreakHour q.1 = .ok q.2 := by decide +kernel
theorem dt_X1_findHeardInTime : ∀ q ∈ ([(0, .aload_n 0, 1), (1, .iload_n 2, 1), (2, .invokevirtual 73, 3), (5, .istore_n 3, 1), (6, .iconst 0, 1), (7, .istore 4, 2), (9, .aload_n 0, 1), (10, .getfield 26, 3), (13, .aload_n 0, 1), (14, .getfield 22, 3), (17, .invokevirtual 29, 3), (20, .iconst 0, 1), (21, .istore 5, 2), (23, .iload 5, 2), (25, .iload_n 3, 1), (26, .if_icmp .ge 57, 3), (29, .iload 4, 2), (31, .iload_n 2, 1), (32, .if_icmp .eq 51, 3), (35, .iload 4, 2), (37, .aload_n 0, 1), (38, .getfield 26, 3), (41, .iload_n 1, 1), (42, .invokevirtual 76, 3), (45, .aload_n 0, 1), (46, .iload 5, 2), (48, .iload_n 2, 1), (49, .invokevirtual 79, 3), (52, .iand, 1), (53, .ior, 1), (54, .istore 4, 2), (56, .aload_n 0, 1), (57, .getfield 26, 3), (60, .iload_n 1, 1), (61, .invokevirtual 82, 3), (64, .aload_n 0, 1), (65, .getfield 26, 3), (68, .dup, 1), (69, .getfield 42, 3), (72, .iconst 1, 1), (73, .iadd, 1), (74, .putfield 42, 3), (77, .iinc 5 1, 3), (80, .goto (-57), 3), (83, .iload 4, 2), (85, .ireturn, 1)] : List (Nat × Instr × Nat)), decode cX1_findHeardInTime q.1 = .ok q.2 := by decide +kernel
theorem dt_X1_unbrokenIn : ∀ q ∈ ([(0, .iconst 0, 1), (1, .istore_n 3, 1), (2, .iconst 0, 1), (3, .istore 4, 2), (5, .iload 4, 2), (7, .aload_n 0, 1), (8, .getfield 18, 3), (11, .getfield 52, 3), (14, .if_icmp .ge 40, 3), (17, .iload_n 3, 1), (18, .iload_n 2, 1), (19, .iload 4, 2), (21, .invokestatic 63, 3), (24, .ifCond .eq 21, 3), (27, .iload_n 1, 1), (28, .aload_n 0, 1), (29, .getfield 9, 3), (32, .iload 4, 2), (34, .iaload, 1), (35, .if_icmp .ge 10, 3), (38, .iconst 1, 1), (39, .iload 4, 2), (41, .ishl, 1), (42, .goto 4, 3), (45, .iconst 0, 1), (46, .ior, 1), (47, .istore_n 3, 1), (48, .iinc 4 1, 3), (51, .goto (-46), 3), (54, .iload_n 3, 1), (55, .ireturn, 1)] : List (Nat × Instr × Nat)), decode cX1_unbrokenIn q.1 = .ok q.2 := by decide +kernel
theorem dt_X1_missedBy : ∀ q ∈ ([(0, .aload_n 0, 1), (1, .invokevirtual 85, 3), (4, .istore_n 2, 1), (5, .iconst 0, 1), (6, .istore_n 3, 1), (7, .iload_n 3, 1), (8, .aload_n 0, 1), (9, .getfield 18, 3), (12, .getfield 89, 3), (15, .if_icmp .ge 32, 3), (18, .iload_n 2, 1), (19, .ifCond .eq 28, 3), (22, .iload_n 1, 1), (23, .iload_n 3, 1), (24, .invokestatic 63, 3), (27, .ifCond .eq 14, 3), (30, .iload_n 2, 1), (31, .aload_n 0, 1), (32, .iload_n 3, 1), (33, .iload_n 2, 1), (34, .invokevirtual 92, 3), (37, .iconst (-1), 1), (38, .ixor, 1), (39, .iand, 1), (40, .istore_n 2, 1), (41, .iinc 3 1, 3), (44, .goto (-37), 3), (47, .iload_n 2, 1), (48, .ireturn, 1)] : List (Nat × Instr × Nat)), decode cX1_missedBy q.1 = .ok q.2 := by decide +kernel
theorem dt_X1_leastWatch : ∀ q ∈ ([(0, .aload_n 0, 1), (1, .invokevirtual 85, 3), (4, .istore_n 1, 1), (5, .iconst 0, 1), (6, .istore_n 2, 1), (7, .iload_n 2, 1), (8, .aload_n 0, 1), (9, .getfield 18, 3), (12, .getfield 89, 3), (15, .if_icmp .ge 21, 3), (18, .aload_n 0, 1), (19, .getfield 15, 3), (22, .iload_n 2, 1), (23, .aload_n 0, 1), (24, .iload_n 2, 1), (25, .iload_n 1, 1), (26, .invokevirtual 92, 3), (29, .iastore, 1), (30, .iinc 2 1, 3), (33, .goto (-26), 3), (36, .iconst (-1), 1), (37, .istore_n 2, 1), (38, .iconst 0, 1), (39, .istore_n 3, 1), (40, .iload_n 3, 1), (41, .iconst 1, 1), (42, .aload_n 0, 1), (43, .getfield 18, 3), (46, .getfield 89, 3), (49, .ishl, 1), (50, .if_icmp .ge 51, 3), (53, .iload_n 2, 1), (54, .iconst (-1), 1), (55, .if_icmp .eq 14, 3), (58, .iload_n 3, 1), (59, .invokestatic 95, 3), (62, .iload_n 2, 1), (63, .invokestatic 95, 3), (66, .if_icmp .ge 7, 3), (69, .iconst 1, 1), (70, .goto 4, 3), (73, .iconst 0, 1), (74, .istore 4, 2), (76, .iload 4, 2), (78, .ifCond .eq 17, 3), (81, .iload_n 1, 1), (82, .aload_n 0, 1), (83, .iload_n 3, 1), (84, .invokevirtual 100, 3), (87, .iconst (-1), 1), (88, .ixor, 1), (89, .iand, 1), (90, .ifCond .ne 5, 3), (93, .iload_n 3, 1), (94, .istore_n 2, 1), (95, .iinc 3 1, 3), (98, .goto (-58), 3), (101, .iload_n 2, 1), (102, .ireturn, 1)] : List (Nat × Instr × Nat)), decode cX1_leastWatch q.1 = .ok q.2 := by decide +kernel
theorem dt_X1_heardTogether : ∀ q ∈ ([(0, .iconst 0, 1), (1, .istore_n 2, 1), (2, .iconst 0, 1), (3, .istore_n 3, 1), (4, .iload_n 3, 1), (5, .aload_n 0, 1), (6, .getfield 18, 3), (9, .getfield 89, 3), (12, .if_icmp .ge 30, 3), (15, .iload_n 2, 1), (16, .iload_n 1, 1), (17, .iload_n 3, 1), (18, .invokestatic 63, 3), (21, .ifCond .eq 12, 3), (24, .aload_n 0, 1), (25, .getfield 15, 3), (28, .iload_n 3, 1), (29, .iaload, 1), (30, .goto 4, 3), (33, .iconst 0, 1), (34, .ior, 1), (35, .istore_n 2, 1), (36, .iinc 3 1, 3), (39, .goto (-35), 3), (42, .iload_n 2, 1), (43, .ireturn, 1)] : List (Nat × Instr × Nat)), decode cX1_heardTogether q.1 = .ok q.2 := by decide +kernel
theorem dt_X2_init : ∀ q ∈ ([(0, .aload_n 0, 1), (1, .invokespecial 3, 3), (4, .aload_n 0, 1), (5, .bipush 6, 2), (7, .newarray .int, 2), (9, .putfield 9, 3), (12, .aload_n 0, 1), (13, .iconst 5, 1), (14, .newarray .int, 2), (16, .putfield 15, 3), (19, .aload_n 0, 1), (20, .iconst 5, 1), (21, .newarray .int, 2), (23, .putfield 18, 3), (26, .aload_n 0, 1), (27, .iconst 0, 1), (28, .putfield 21, 3), (31, .aload_n 0, 1), (32, .iconst 0, 1), (33, .putfield 25, 3), (36, .aload_n 0, 1), (37, .aload_n 1, 1), (38, .putfield 28, 3), (41, .aload_n 0, 1), (42, .aload_n 2, 1), (43, .putfield 32, 3), (46, .return_, 1)] : List (Nat × Instr × Nat)), decode cX2_init q.1 = .ok q.2 := by decide +kernel
theorem dt_X2_bestAt : ∀ q ∈ ([(0, .iload_n 1, 1), (1, .ifCond .lt 20, 3), (4, .iload_n 1, 1), (5, .aload_n 0, 1), (6, .getfield 21, 3), (9, .if_icmp .ge 12, 3), (12, .aload_n 0, 1), (13, .getfield 18, 3), (16, .iload_n 1, 1), (17, .iaload, 1), (18, .goto 4, 3), (21, .iconst (-1), 1), (22, .ireturn, 1)] : List (Nat × Instr × Nat)), decode cX2_bestAt q.1 = .ok q.2 := by decide +kernel
theorem dt_X2_findBestRow : ∀ q ∈ ([(0, .aload_n 0, 1), (1, .iload_n 2, 1), (2, .invokevirtual 36, 3), (5, .aload_n 0, 1), (6, .bipush 6, 2), (8, .putfield 25, 3), (11, .iconst 1, 1), (12, .istore_n 3, 1), (13, .iconst 0, 1), (14, .istore 4, 2), (16, .iload 4, 2), (18, .bipush 120, 2), (20, .if_icmp .ge 54, 3), (23, .iload_n 3, 1), (24, .ifCond .eq 50, 3), (27, .aload_n 0, 1), (28, .iload_n 1, 1), (29, .invokevirtual 40, 3), (32, .istore 5, 2), (34, .iload 5, 2), (36, .aload_n 0, 1), (37, .getfield 25, 3), (40, .if_icmp .ge 23, 3), (43, .aload_n 0, 1), (44, .iload 5, 2), (46, .putfield 25, 3), (49, .aload_n 0, 1), (50, .getfield 15, 3), (53, .iconst 0, 1), (54, .aload_n 0, 1), (55, .getfield 18, 3), (58, .iconst 0, 1), (59, .iconst 5, 1), (60, .invokestatic 44, 3), (63, .aload_n 0, 1), (64, .invokevirtual 50, 3), (67, .istore_n 3, 1), (68, .iinc 4 1, 3), (71, .goto (-55), 3), (74, .return_, 1)] : List (Nat × Instr × Nat)), decode cX2_findBestRow q.1 = .ok q.2 := by decide +kernel
theorem dt_X2_layFirstRow : ∀ q ∈ ([(0, .aload_n 0, 1), (1, .iconst 0, 1), (2, .putfield 21, 3), (5, .iconst 0, 1), (6, .istore_n 2, 1), (7, .iload_n 2, 1), (8, .aload_n 0, 1), (9, .getfield 28, 3), (12, .getfield 54, 3), (15, .if_icmp .ge 59, 3), (18, .iload_n 1, 1), (19, .iload_n 2, 1), (20, .invokestatic 59, 3), (23, .ifCond .eq 45, 3), (26, .aload_n 0, 1), (27, .getfield 21, 3), (30, .iconst 5, 1), (31, .if_icmp .ge 37, 3), (34, .aload_n 0, 1), (35, .getfield 9, 3), (38, .iload_n 2, 1), (39, .aload_n 0, 1), (40, .getfield 32, 3), (43, .iload_n 2, 1), (44, .invokevirtual 63, 3), (47, .iastore, 1), (48, .aload_n 0, 1), (49, .getfield 15, 3), (52, .aload_n 0, 1), (53, .getfield 21, 3), (56, .iload_n 2, 1), (57, .iastore, 1), (58, .aload_n 0, 1), (59, .dup, 1), (60, .getfield 21, 3), (63, .iconst 1, 1), (64, .iadd, 1), (65, .putfield 21, 3), (68, .iinc 2 1, 3), (71, .goto (-64), 3), (74, .return_, 1)] : List (Nat × Instr × Nat)), decode cX2_layFirstRow q.1 = .ok q.2 := by decide +kernel
theorem dt_X2_lostByRow : ∀ q ∈ ([(0, .iconst 0, 1), (1, .istore_n 2, 1), (2, .iconst 0, 1), (3, .istore_n 3, 1), (4, .iload_n 1, 1), (5, .istore 4, 2), (7, .iconst 0, 1), (8, .istore 5, 2), (10, .iload 5, 2), (12, .aload_n 0, 1), (13, .getfield 21, 3), (16, .if_icmp .ge 81, 3), (19, .aload_n 0, 1), (20, .getfield 15, 3), (23, .iload 5, 2), (25, .iaload, 1), (26, .istore 6, 2), (28, .iload_n 3, 1), (29, .iload 4, 2), (31, .aload_n 0, 1), (32, .getfield 28, 3), (35, .getfield 68, 3), (38, .iload 6, 2), (40, .iaload, 1), (41, .isub, 1), (42, .invokestatic 71, 3), (45, .iconst 1, 1), (46, .iadd, 1), (47, .iadd, 1), (48, .istore_n 3, 1), (49, .aload_n 0, 1), (50, .getfield 28, 3), (53, .getfield 68, 3), (56, .iload 6, 2), (58, .iaload, 1), (59, .istore 4, 2), (61, .iload_n 2, 1), (62, .aload_n 0, 1), (63, .getfield 9, 3), (66, .iload 6, 2), (68, .iaload, 1), (69, .iconst (-1), 1), (70, .if_icmp .eq 18, 3), (73, .aload_n 0, 1), (74, .getfield 9, 3), (77, .iload 6, 2), (79, .iaload, 1), (80, .iload_n 3, 1), (81, .if_icmp .gt 7, 3), (84, .iconst 1, 1), (85, .goto 4, 3), (88, .iconst 0, 1), (89, .iadd, 1), (90, .istore_n 2, 1), (91, .iinc 5 1, 3), (94, .goto (-84), 3), (97, .iload_n 2, 1), (98, .ireturn, 1)] : List (Nat × Instr × Nat)), decode cX2_lostByRow q.1 = .ok q.2 := by decide +kernel
theorem dt_X2_layNextRow : ∀ q ∈ ([(0, .aload_n 0, 1), (1, .getfield 21, 3), (4, .iconst 2, 1), (5, .isub, 1), (6, .istore_n 1, 1), (7, .iload_n 1, 1), (8, .ifCond .lt 26, 3), (11, .aload_n 0, 1), (12, .getfield 15, 3), (15, .iload_n 1, 1), (16, .iaload, 1), (17, .aload_n 0, 1), (18, .getfield 15, 3), (21, .iload_n 1, 1), (22, .iconst 1, 1), (23, .iadd, 1), (24, .iaload, 1), (25, .if_icmp .le 9, 3), (28, .iinc 1 (-1), 3), (31, .goto (-24), 3), (34, .iload_n 1, 1), (35, .ifCond .ge 5, 3), (38, .iconst 0, 1), (39, .ireturn, 1), (40, .aload_n 0, 1), (41, .getfield 21, 3), (44, .iconst 1, 1), (45, .isub, 1), (46, .istore_n 2, 1), (47, .iload_n 2, 1), (48, .iload_n 1, 1), (49, .if_icmp .le 24, 3), (52, .aload_n 0, 1), (53, .getfield 15, 3), (56, .iload_n 2, 1), (57, .iaload, 1), (58, .aload_n 0, 1), (59, .getfield 15, 3), (62, .iload_n 1, 1), (63, .iaload, 1), (64, .if_icmp .ge 9, 3), (67, .iinc 2 (-1), 3), (70, .goto (-23), 3), (73, .aload_n 0, 1), (74, .iload_n 1, 1), (75, .iload_n 2, 1), (76, .invokevirtual 76, 3), (79, .iload_n 1, 1), (80, .iconst 1, 1), (81, .iadd, 1), (82, .istore_n 3, 1), (83, .aload_n 0, 1), (84, .getfield 21, 3), (87, .iconst 1, 1), (88, .isub, 1), (89, .istore 4, 2), (91, .iload_n 3, 1), (92, .iload 4, 2), (94, .if_icmp .ge 19, 3), (97, .aload_n 0, 1), (98, .iload_n 3, 1), (99, .iload 4, 2), (101, .invokevirtual 76, 3), (104, .iinc 3 1, 3), (107, .iinc 4 (-1), 3), (110, .goto (-19), 3), (113, .iconst 1, 1), (114, .ireturn, 1)] : List (Nat × Instr × Nat)), decode cX2_layNextRow q.1 = .ok q.2 := by decide +kernel
theorem dt_X2_swap : ∀ q ∈ ([(0, .aload_n 0, 1), (1, .getfield 15, 3), (4, .iload_n 1, 1), (5, .iaload, 1), (6, .istore_n 3, 1), (7, .aload_n 0, 1), (8, .getfield 15, 3), (11, .iload_n 1, 1), (12, .aload_n 0, 1), (13, .getfield 15, 3), (16, .iload_n 2, 1), (17, .iaload, 1), (18, .iastore, 1), (19, .aload_n 0, 1), (20, .getfield 15, 3), (23, .iload_n 2, 1), (24, .iload_n 3, 1), (25, .iastore, 1), (26, .return_, 1)] : List (Nat × Instr × Nat)), decode cX2_swap q.1 = .ok q.2 := by decide +kernel
theorem dt_X3_init : ∀ q ∈ ([(0, .aload_n 0, 1), (1, .invokespecial 3, 3), (4, .aload_n 0, 1), (5, .iconst 0, 1), (6, .putfield 9, 3), (9, .aload_n 0, 1), (10, .iconst 0, 1), (11, .putfield 15, 3), (14, .aload_n 0, 1), (15, .bipush 6, 2), (17, .newarray .int, 2), (19, .putfield 18, 3), (22, .aload_n 0, 1), (23, .iconst 5, 1), (24, .newarray .int, 2), (26, .putfield 22, 3), (29, .aload_n 0, 1), (30, .iconst 0, 1), (31, .putfield 25, 3), (34, .aload_n 0, 1), (35, .iconst 5, 1), (36, .newarray .int, 2), (38, .putfield 28, 3), (41, .aload_n 0, 1), (42, .aload_n 1, 1), (43, .putfield 31, 3), (46, .return_, 1)] : List (Nat × Instr × Nat)), decode cX3_init q.1 = .ok q.2 := by decide +kernel
theorem dt_X3_begin : ∀ q ∈ ([(0, .aload_n 0, 1), (1, .iconst 0, 1), (2, .putfield 9, 3), (5, .aload_n 0, 1), (6, .iconst 0, 1), (7, .putfield 15, 3), (10, .aload_n 0, 1), (11, .getfield 31, 3), (14, .getfield 35, 3), (17, .iconst 0, 1), (18, .aload_n 0, 1), (19, .getfield 18, 3), (22, .iconst 0, 1), (23, .bipush 6, 2), (25, .invokestatic 40, 3), (28, .aload_n 0, 1), (29, .getfield 31, 3), (32, .getfield 46, 3), (35, .iconst 0, 1), (36, .aload_n 0, 1), (37, .getfield 22, 3), (40, .iconst 0, 1), (41, .iconst 5, 1), (42, .invokestatic 40, 3), (45, .aload_n 0, 1), (46, .iconst 0, 1), (47, .putfield 25, 3), (50, .aload_n 0, 1), (51, .getfield 28, 3), (54, .iconst 0, 1), (55, .invokestatic 49, 3), (58, .return_, 1)] : List (Nat × Instr × Nat)), decode cX3_begin q.1 = .ok q.2 := by decide +kernel
theorem dt_X3_copyFrom : ∀ q ∈ ([(0, .aload_n 0, 1), (1, .aload_n 1, 1), (2, .getfield 9, 3), (5, .putfield 9, 3), (8, .aload_n 0, 1), (9, .aload_n 1, 1), (10, .getfield 15, 3), (13, .putfield 15, 3), (16, .aload_n 1, 1), (17, .getfield 18, 3), (20, .iconst 0, 1), (21, .aload_n 0, 1), (22, .getfield 18, 3), (25, .iconst 0, 1), (26, .bipush 6, 2), (28, .invokestatic 40, 3), (31, .aload_n 1, 1), (32, .getfield 22, 3), (35, .iconst 0, 1), (36, .aload_n 0, 1), (37, .getfield 22, 3), (40, .iconst 0, 1), (41, .iconst 5, 1), (42, .invokestatic 40, 3), (45, .aload_n 0, 1), (46, .aload_n 1, 1), (47, .getfield 25, 3), (50, .putfield 25, 3), (53, .aload_n 1, 1), (54, .getfield 28, 3), (57, .iconst 0, 1), (58, .aload_n 0, 1), (59, .getfield 28, 3), (62, .iconst 0, 1), (63, .iconst 5, 1), (64, .invokestatic 40, 3), (67, .return_, 1)] : List (Nat × Instr × Nat)), decode cX3_copyFrom q.1 = .ok q.2 := by decide +kernel
theorem dt_X3_passHours : ∀ q ∈ ([(0, .iconst 0, 1), (1, .istore_n 2, 1), (2, .iload_n 2, 1), (3, .iload_n 1, 1), (4, .if_icmp .ge 47, 3), (7, .aload_n 0, 1), (8, .invokevirtual 55, 3), (11, .iconst 0, 1), (12, .istore_n 3, 1), (13, .iload_n 3, 1), (14, .aload_n 0, 1), (15, .getfield 31, 3), (18, .getfield 58, 3), (21, .if_icmp .ge 14, 3), (24, .aload_n 0, 1), (25, .iload_n 3, 1), (26, .invokevirtual 61, 3), (29, .iinc 3 1, 3), (32, .goto (-19), 3), (35, .aload_n 0, 1), (36, .dup, 1), (37, .getfield 9, 3), (40, .iconst 1, 1), (41, .iadd, 1), (42, .putfield 9, 3), (45, .iinc 2 1, 3), (48, .goto (-46), 3), (51, .return_, 1)] : List (Nat × Instr × Nat)), decode cX3_passHours q.1 = .ok q.2 := by decide +kernel
theorem dt_X3_growSeeps : ∀ q ∈ ([(0, .iconst 0, 1), (1, .istore_n 1, 1), (2, .iload_n 1, 1), (3, .aload_n 0, 1), (4, .getfield 31, 3), (7, .getfield 65, 3), (10, .if_icmp .ge 41, 3), (13, .aload_n 0, 1), (14, .iload_n 1, 1), (15, .invokevirtual 68, 3), (18, .ifCond .ne 27, 3), (21, .aload_n 0, 1), (22, .getfield 18, 3), (25, .iload_n 1, 1), (26, .aload_n 0, 1), (27, .getfield 31, 3), (30, .iload_n 1, 1), (31, .aload_n 0, 1), (32, .getfield 18, 3), (35, .iload_n 1, 1), (36, .iaload, 1), (37, .aload_n 0, 1), (38, .getfield 9, 3), (41, .invokevirtual 72, 3), (44, .iastore, 1), (45, .iinc 1 1, 3), (48, .goto (-46), 3), (51, .return_, 1)] : List (Nat × Instr × Nat)), decode cX3_growSeeps q.1 = .ok q.2 := by decide +kernel
theorem dt_X3_walk : ∀ q ∈ ([(0, .iconst 0, 1), (1, .istore_n 2, 1), (2, .iload_n 2, 1), (3, .aload_n 0, 1), (4, .getfield 31, 3), (7, .getfield 76, 3), (10, .iload_n 1, 1), (11, .iaload, 1), (12, .if_icmp .ge 75, 3), (15, .aload_n 0, 1), (16, .iload_n 1, 1), (17, .invokevirtual 79, 3), (20, .ifCond .eq 7, 3), (23, .iconst 0, 1), (24, .goto 12, 3), (27, .aload_n 0, 1), (28, .getfield 31, 3), (31, .getfield 82, 3), (34, .iconst 1, 1), (35, .isub, 1), (36, .istore_n 3, 1), (37, .aload_n 0, 1), (38, .getfield 22, 3), (41, .iload_n 1, 1), (42, .iaload, 1), (43, .iload_n 3, 1), (44, .if_icmp .ne 15, 3), (47, .aload_n 0, 1), (48, .dup, 1), (49, .getfield 25, 3), (52, .iconst 1, 1), (53, .iload_n 1, 1), (54, .ishl, 1), (55, .ixor, 1), (56, .putfield 25, 3), (59, .aload_n 0, 1), (60, .getfield 22, 3), (63, .iload_n 1, 1), (64, .dup2, 1), (65, .iaload, 1), (66, .aload_n 0, 1), (67, .iload_n 1, 1), (68, .invokevirtual 79, 3), (71, .ifCond .eq 7, 3), (74, .iconst (-1), 1), (75, .goto 4, 3), (78, .iconst 1, 1), (79, .iadd, 1), (80, .iastore, 1), (81, .iinc 2 1, 3), (84, .goto (-82), 3), (87, .return_, 1)] : List (Nat × Instr × Nat)), decode cX3_walk q.1 = .ok q.2 := by decide +kernel
theorem dt_X3_goesToLesser : ∀ q ∈ ([(0, .aload_n 0, 1), (1, .getfield 25, 3), (4, .iload_n 1, 1), (5, .invokestatic 85, 3), (8, .ireturn, 1)] : List (Nat × Instr × Nat)), decode cX3_goesToLesser q.1 = .ok q.2 := by decide +kernel
theorem dt_X3_isFilled : ∀ q ∈ ([(0, .aload_n 0, 1), (1, .getfield 15, 3), (4, .iload_n 1, 1), (5, .invokestatic 85, 3), (8, .ireturn, 1)] : List (Nat × Instr × Nat)), decode cX3_isFilled q.1 = .ok q.2 := by decide +kernel
theorem dt_X3_brokenSeeps : ∀ q ∈ ([(0, .iconst 0, 1), (1, .istore_n 1, 1), (2, .iconst 0, 1), (3, .istore_n 2, 1), (4, .iload_n 2, 1), (5, .aload_n 0, 1), (6, .getfield 31, 3), (9, .getfield 65, 3), (12, .if_icmp .ge 30, 3), (15, .iload_n 1, 1), (16, .aload_n 0, 1), (17, .getfield 18, 3), (20, .iload_n 2, 1), (21, .iaload, 1), (22, .bipush 100, 2), (24, .if_icmp .lt 9, 3), (27, .iconst 1, 1), (28, .iload_n 2, 1), (29, .ishl, 1), (30, .goto 4, 3), (33, .iconst 0, 1), (34, .ior, 1), (35, .istore_n 1, 1), (36, .iinc 2 1, 3), (39, .goto (-35), 3), (42, .iload_n 1, 1), (43, .ireturn, 1)] : List (Nat × Instr × Nat)), decode cX3_brokenSeeps q.1 = .ok q.2 := by decide +kernel
theorem dt_X3_seepsAt : ∀ q ∈ ([(0, .iconst 0, 1), (1, .istore_n 2, 1), (2, .iconst 0, 1), (3, .istore_n 3, 1), (4, .iload_n 3, 1), (5, .aload_n 0, 1), (6, .getfield 31, 3), (9, .getfield 65, 3), (12, .if_icmp .ge 32, 3), (15, .iload_n 2, 1), (16, .aload_n 0, 1), (17, .getfield 31, 3), (20, .getfield 89, 3), (23, .iload_n 3, 1), (24, .iaload, 1), (25, .iload_n 1, 1), (26, .if_icmp .ne 9, 3), (29, .iconst 1, 1), (30, .iload_n 3, 1), (31, .ishl, 1), (32, .goto 4, 3), (35, .iconst 0, 1), (36, .ior, 1), (37, .istore_n 2, 1), (38, .iinc 3 1, 3), (41, .goto (-37), 3), (44, .iload_n 2, 1), (45, .ireturn, 1)] : List (Nat × Instr × Nat)), decode cX3_seepsAt q.1 = .ok q.2 := by decide +kernel
theorem dt_X3_earOf : ∀ q ∈ ([(0, .aload_n 0, 1), (1, .getfield 31, 3), (4, .getfield 92, 3), (7, .iload_n 1, 1), (8, .iaload, 1), (9, .istore_n 2, 1), (10, .aload_n 0, 1), (11, .getfield 31, 3), (14, .getfield 95, 3), (17, .iload_n 1, 1), (18, .iaload, 1), (19, .iconst 1, 1), (20, .if_icmp .ne 18, 3), (23, .iconst 0, 1), (24, .iload_n 2, 1), (25, .aload_n 0, 1), (26, .getfield 9, 3), (29, .iconst 4, 1), (30, .idiv, 1), (31, .isub, 1), (32, .invokestatic 98, 3), (35, .goto 4, 3), (38, .iload_n 2, 1), (39, .ireturn, 1)] : List (Nat × Instr × Nat)), decode cX3_earOf q.1 = .ok q.2 := by decide +kernel
theorem dt_X3_heardFrom : ∀ q ∈ ([(0, .iconst 0, 1), (1, .istore_n 3, 1), (2, .iconst 0, 1), (3, .istore 4, 2), (5, .iload 4, 2), (7, .aload_n 0, 1), (8, .getfield 31, 3), (11, .getfield 65, 3), (14, .if_icmp .ge 43, 3), (17, .aload_n 0, 1), (18, .iload 4, 2), (20, .invokevirtual 68, 3), (23, .ifCond .ne 28, 3), (26, .iload_n 2, 1), (27, .iload_n 1, 1), (28, .aload_n 0, 1), (29, .getfield 31, 3), (32, .getfield 89, 3), (35, .iload 4, 2), (37, .iaload, 1), (38, .invokestatic 104, 3), (41, .ifCond .eq 10, 3), (44, .iload_n 3, 1), (45, .iconst 1, 1), (46, .iload 4, 2), (48, .ishl, 1), (49, .ior, 1), (50, .istore_n 3, 1), (51, .iinc 4 1, 3), (54, .goto (-49), 3), (57, .iload_n 3, 1), (58, .ireturn, 1)] : List (Nat × Instr × Nat)), decode cX3_heardFrom q.1 = .ok q.2 := by decide +kernel
theorem dt_X3_heardBy : ∀ q ∈ ([(0, .aload_n 0, 1), (1, .getfield 31, 3), (4, .getfield 95, 3), (7, .iload_n 1, 1), (8, .iaload, 1), (9, .istore_n 2, 1), (10, .iload_n 2, 1), (11, .iconst 2, 1), (12, .if_icmp .eq 8, 3), (15, .iload_n 2, 1), (16, .iconst 3, 1), (17, .if_icmp .ne 7, 3), (20, .iconst 0, 1), (21, .goto 18, 3), (24, .aload_n 0, 1), (25, .aload_n 0, 1), (26, .getfield 22, 3), (29, .iload_n 1, 1), (30, .iaload, 1), (31, .aload_n 0, 1), (32, .iload_n 1, 1), (33, .invokevirtual 108, 3), (36, .invokevirtual 112, 3), (39, .ireturn, 1)] : List (Nat × Instr × Nat)), decode cX3_heardBy q.1 = .ok q.2 := by decide +kernel
theorem dt_X3_toldBy : ∀ q ∈ ([(0, .aload_n 0, 1), (1, .getfield 31, 3), (4, .getfield 95, 3), (7, .iload_n 1, 1), (8, .iaload, 1), (9, .iconst 2, 1), (10, .if_icmp .ne 10, 3), (13, .aload_n 0, 1), (14, .getfield 22, 3), (17, .iload_n 1, 1), (18, .iaload, 1), (19, .ireturn, 1), (20, .aload_n 0, 1), (21, .iload_n 1, 1), (22, .invokevirtual 115, 3), (25, .istore_n 2, 1), (26, .iconst (-1), 1), (27, .istore_n 3, 1), (28, .iconst 0, 1), (29, .istore 4, 2), (31, .iload 4, 2), (33, .aload_n 0, 1), (34, .getfield 31, 3), (37, .getfield 65, 3), (40, .if_icmp .ge 52, 3), (43, .iload_n 2, 1), (44, .iload 4, 2), (46, .invokestatic 85, 3), (49, .ifCond .eq 37, 3), (52, .aload_n 0, 1), (53, .getfield 22, 3), (56, .iload_n 1, 1), (57, .iaload, 1), (58, .aload_n 0, 1), (59, .getfield 31, 3), (62, .getfield 89, 3), (65, .iload 4, 2), (67, .iaload, 1), (68, .iload_n 3, 1), (69, .invokestatic 118, 3), (72, .ifCond .eq 14, 3), (75, .aload_n 0, 1), (76, .getfield 31, 3), (79, .getfield 89, 3), (82, .iload 4, 2), (84, .iaload, 1), (85, .istore_n 3, 1), (86, .iinc 4 1, 3), (89, .goto (-58), 3), (92, .iload_n 3, 1), (93, .ireturn, 1)] : List (Nat × Instr × Nat)), decode cX3_toldBy q.1 = .ok q.2 := by decide +kernel
theorem dt_X3_isNearer : ∀ q ∈ ([(0, .iload_n 2, 1), (1, .iconst (-1), 1), (2, .if_icmp .ne 5, 3), (5, .iconst 1, 1), (6, .ireturn, 1), (7, .iload_n 0, 1), (8, .iload_n 1, 1), (9, .isub, 1), (10, .invokestatic 121, 3), (13, .iload_n 0, 1), (14, .iload_n 2, 1), (15, .isub, 1), (16, .invokestatic 121, 3), (19, .invokestatic 124, 3), (22, .istore_n 3, 1), (23, .iload_n 3, 1), (24, .ifCond .lt 12, 3), (27, .iload_n 3, 1), (28, .ifCond .ne 12, 3), (31, .iload_n 1, 1), (32, .iload_n 2, 1), (33, .if_icmp .ge 7, 3), (36, .iconst 1, 1), (37, .goto 4, 3), (40, .iconst 0, 1), (41, .ireturn, 1)] : List (Nat × Instr × Nat)), decode cX3_isNearer q.1 = .ok q.2 := by decide +kernel
theorem dt_X3_fillAt : ∀ q ∈ ([(0, .aload_n 0, 1), (1, .iload_n 1, 1), (2, .invokevirtual 129, 3), (5, .istore_n 2, 1), (6, .iload_n 2, 1), (7, .aload_n 0, 1), (8, .getfield 15, 3), (11, .iconst (-1), 1), (12, .ixor, 1), (13, .iand, 1), (14, .aload_n 0, 1), (15, .invokevirtual 132, 3), (18, .iconst (-1), 1), (19, .ixor, 1), (20, .iand, 1), (21, .ifCond .eq 7, 3), (24, .iconst 1, 1), (25, .goto 4, 3), (28, .iconst 0, 1), (29, .istore_n 3, 1), (30, .iconst 0, 1), (31, .istore 4, 2), (33, .iconst 0, 1), (34, .istore 5, 2), (36, .iload 5, 2), (38, .aload_n 0, 1), (39, .getfield 31, 3), (42, .getfield 58, 3), (45, .if_icmp .ge 58, 3), (48, .iload_n 3, 1), (49, .ifCond .eq 54, 3), (52, .aload_n 0, 1), (53, .iload 5, 2), (55, .invokevirtual 136, 3), (58, .istore 6, 2), (60, .iload 6, 2), (62, .iconst (-1), 1), (63, .if_icmp .ne 7, 3), (66, .iconst 0, 1), (67, .goto 9, 3), (70, .iload 6, 2), (72, .iload_n 1, 1), (73, .invokestatic 139, 3), (76, .istore 7, 2), (78, .aload_n 0, 1), (79, .getfield 28, 3), (82, .iload 5, 2), (84, .dup2, 1), (85, .iaload, 1), (86, .iload 7, 2), (88, .iadd, 1), (89, .iastore, 1), (90, .iload 4, 2), (92, .iload 7, 2), (94, .iadd, 1), (95, .istore 4, 2), (97, .iinc 5 1, 3), (100, .goto (-64), 3), (103, .aload_n 0, 1), (104, .dup, 1), (105, .getfield 15, 3), (108, .iload_n 2, 1), (109, .ior, 1), (110, .putfield 15, 3), (113, .iload 4, 2), (115, .ireturn, 1)] : List (Nat × Instr × Nat)), decode cX3_fillAt q.1 = .ok q.2 := by decide +kernel
theorem dt_X4_init : ∀ q ∈ ([(0, .aload_n 0, 1), (1, .invokespecial 3, 3), (4, .aload_n 0, 1), (5, .iconst 0, 1), (6, .putfield 11, 3), (9, .aload_n 0, 1), (10, .iconst 0, 1), (11, .putfield 15, 3), (14, .aload_n 0, 1), (15, .iconst 0, 1), (16, .putfield 18, 3), (19, .aload_n 0, 1), (20, .iconst 0, 1), (21, .putfield 21, 3), (24, .aload_n 0, 1), (25, .aload_n 1, 1), (26, .putfield 24, 3), (29, .aload_n 0, 1), (30, .aload_n 2, 1), (31, .putfield 28, 3), (34, .return_, 1)] : List (Nat × Instr × Nat)), decode cX4_init q.1 = .ok q.2 := by decide +kernel
theorem dt_X4_readToFault : ∀ q ∈ ([(0, .aload_n 0, 1), (1, .iconst 0, 1), (2, .putfield 18, 3), (5, .aload_n 0, 1), (6, .iconst 1, 1), (7, .putfield 21, 3), (10, .aload_n 0, 1), (11, .getfield 21, 3), (14, .bipush 12, 2), (16, .if_icmp .gt 62, 3), (19, .aload_n 0, 1), (20, .invokevirtual 32, 3), (23, .ifCond .ne 8, 3), (26, .aload_n 0, 1), (27, .getfield 15, 3), (30, .ireturn, 1), (31, .aload_n 0, 1), (32, .invokevirtual 36, 3), (35, .aload_n 0, 1), (36, .getfield 11, 3), (39, .ifCond .ne 5, 3), (42, .iconst (-1), 1), (43, .ireturn, 1), (44, .aload_n 0, 1), (45, .getfield 24, 3), (48, .aload_n 0, 1), (49, .getfield 15, 3), (52, .invokevirtual 39, 3), (55, .bipush 59, 2), (57, .if_icmp .eq 8, 3), (60, .aload_n 0, 1), (61, .getfield 15, 3), (64, .ireturn, 1), (65, .aload_n 0, 1), (66, .dup, 1), (67, .getfield 21, 3), (70, .iconst 1, 1), (71, .iadd, 1), (72, .putfield 21, 3), (75, .goto (-65), 3), (78, .aload_n 0, 1), (79, .getfield 15, 3), (82, .ireturn, 1)] : List (Nat × Instr × Nat)), decode cX4_readToFault q.1 = .ok q.2 := by decide +kernel
theorem dt_X4_readLine : ∀ q ∈ ([(0, .aload_n 0, 1), (1, .invokevirtual 36, 3), (4, .aload_n 0, 1), (5, .ldc 45, 2), (7, .invokevirtual 47, 3), (10, .ifCond .eq 8, 3), (13, .aload_n 0, 1), (14, .invokevirtual 51, 3), (17, .ireturn, 1), (18, .aload_n 0, 1), (19, .ldc 54, 2), (21, .invokevirtual 47, 3), (24, .ifCond .eq 8, 3), (27, .aload_n 0, 1), (28, .invokevirtual 56, 3), (31, .ireturn, 1), (32, .aload_n 0, 1), (33, .ldc 59, 2), (35, .invokevirtual 47, 3), (38, .ifCond .eq 8, 3), (41, .aload_n 0, 1), (42, .invokevirtual 61, 3), (45, .ireturn, 1), (46, .aload_n 0, 1), (47, .ldc 64, 2), (49, .invokevirtual 47, 3), (52, .ifCond .eq 13, 3), (55, .aload_n 0, 1), (56, .getfield 28, 3), (59, .iconst 0, 1), (60, .putfield 66, 3), (63, .iconst 1, 1), (64, .ireturn, 1), (65, .aload_n 0, 1), (66, .ldc 71, 2), (68, .invokevirtual 47, 3), (71, .ifCond .eq 13, 3), (74, .aload_n 0, 1), (75, .getfield 28, 3), (78, .iconst 0, 1), (79, .putfield 73, 3), (82, .iconst 1, 1), (83, .ireturn, 1), (84, .aload_n 0, 1), (85, .invokevirtual 76, 3), (88, .istore_n 1, 1), (89, .iload_n 1, 1), (90, .iconst (-1), 1), (91, .if_icmp .eq 15, 3), (94, .aload_n 0, 1), (95, .iload_n 1, 1), (96, .invokevirtual 80, 3), (99, .ifCond .eq 7, 3), (102, .iconst 1, 1), (103, .goto 4, 3), (106, .iconst 0, 1), (107, .ireturn, 1)] : List (Nat × Instr × Nat)), decode cX4_readLine q.1 = .ok q.2 := by decide +kernel
theorem dt_X4_kindOfWord : ∀ q ∈ ([(0, .aload_n 0, 1), (1, .ldc 84, 2), (3, .invokevirtual 47, 3), (6, .ifCond .eq 5, 3), (9, .iconst 0, 1), (10, .ireturn, 1), (11, .aload_n 0, 1), (12, .ldc 86, 2), (14, .invokevirtual 47, 3), (17, .ifCond .eq 5, 3), (20, .iconst 1, 1), (21, .ireturn, 1), (22, .aload_n 0, 1), (23, .ldc 88, 2), (25, .invokevirtual 47, 3), (28, .ifCond .eq 5, 3), (31, .iconst 2, 1), (32, .ireturn, 1), (33, .aload_n 0, 1), (34, .ldc 90, 2), (36, .invokevirtual 47, 3), (39, .ifCond .eq 7, 3), (42, .iconst 3, 1), (43, .goto 4, 3), (46, .iconst (-1), 1), (47, .ireturn, 1)] : List (Nat × Instr × Nat)), decode cX4_kindOfWord q.1 = .ok q.2 := by decide +kernel
theorem dt_X4_readDike : ∀ q ∈ ([(0, .aload_n 0, 1), (1, .iconst 4, 1), (2, .bipush 24, 2), (4, .invokevirtual 92, 3), (7, .istore_n 1, 1), (8, .iload_n 1, 1), (9, .iconst (-1), 1), (10, .if_icmp .ne 5, 3), (13, .iconst 0, 1), (14, .ireturn, 1), (15, .aload_n 0, 1), (16, .getfield 28, 3), (19, .iload_n 1, 1), (20, .invokevirtual 96, 3), (23, .iconst 1, 1), (24, .ireturn, 1)] : List (Nat × Instr × Nat)), decode cX4_readDike q.1 = .ok q.2 := by decide +kernel
theorem dt_X4_readTide : ∀ q ∈ ([(0, .aload_n 0, 1), (1, .iconst 0, 1), (2, .bipush 11, 2), (4, .invokevirtual 92, 3), (7, .istore_n 1, 1), (8, .iload_n 1, 1), (9, .ifCond .lt 9, 3), (12, .iload_n 1, 1), (13, .bipush 12, 2), (15, .if_icmp .lt 5, 3), (18, .iconst 0, 1), (19, .ireturn, 1), (20, .aload_n 0, 1), (21, .iconst 0, 1), (22, .bipush 9, 2), (24, .invokevirtual 92, 3), (27, .istore_n 2, 1), (28, .iload_n 2, 1), (29, .iconst (-1), 1), (30, .if_icmp .ne 5, 3), (33, .iconst 0, 1), (34, .ireturn, 1), (35, .aload_n 0, 1), (36, .getfield 28, 3), (39, .getfield 100, 3), (42, .iload_n 1, 1), (43, .iload_n 2, 1), (44, .iastore, 1), (45, .iconst 1, 1), (46, .ireturn, 1)] : List (Nat × Instr × Nat)), decode cX4_readTide q.1 = .ok q.2 := by decide +kernel
theorem dt_X4_readSeep : ∀ q ∈ ([(0, .aload_n 0, 1), (1, .getfield 28, 3), (4, .invokevirtual 104, 3), (7, .ifCond .ne 5, 3), (10, .iconst 0, 1), (11, .ireturn, 1), (12, .aload_n 0, 1), (13, .iconst 0, 1), (14, .aload_n 0, 1), (15, .getfield 28, 3), (18, .getfield 107, 3), (21, .iconst 1, 1), (22, .isub, 1), (23, .invokevirtual 92, 3), (26, .istore_n 1, 1), (27, .iload_n 1, 1), (28, .iconst (-1), 1), (29, .if_icmp .ne 7, 3), (32, .iconst (-1), 1), (33, .goto 10, 3), (36, .aload_n 0, 1), (37, .iconst 1, 1), (38, .bipush 99, 2), (40, .invokevirtual 92, 3), (43, .istore_n 2, 1), (44, .iload_n 2, 1), (45, .iconst (-1), 1), (46, .if_icmp .ne 7, 3), (49, .iconst (-1), 1), (50, .goto 10, 3), (53, .aload_n 0, 1), (54, .iconst 0, 1), (55, .bipush 9, 2), (57, .invokevirtual 92, 3), (60, .istore_n 3, 1), (61, .iload_n 3, 1), (62, .iconst (-1), 1), (63, .if_icmp .ne 7, 3), (66, .iconst (-1), 1), (67, .goto 10, 3), (70, .aload_n 0, 1), (71, .iconst 0, 1), (72, .bipush 9, 2), (74, .invokevirtual 92, 3), (77, .istore 4, 2), (79, .iload 4, 2), (81, .iconst (-1), 1), (82, .if_icmp .ne 5, 3), (85, .iconst 0, 1), (86, .ireturn, 1), (87, .aload_n 0, 1), (88, .getfield 28, 3), (91, .iload_n 1, 1), (92, .iload_n 2, 1), (93, .iload_n 3, 1), (94, .iload 4, 2), (96, .invokevirtual 110, 3), (99, .iconst 1, 1), (100, .ireturn, 1)] : List (Nat × Instr × Nat)), decode cX4_readSeep q.1 = .ok q.2 := by decide +kernel
theorem dt_X4_readChild : ∀ q ∈ ([(0, .aload_n 0, 1), (1, .getfield 28, 3), (4, .invokevirtual 114, 3), (7, .ifCond .ne 5, 3), (10, .iconst 0, 1), (11, .ireturn, 1), (12, .aload_n 0, 1), (13, .iconst 0, 1), (14, .aload_n 0, 1), (15, .getfield 28, 3), (18, .getfield 107, 3), (21, .iconst 1, 1), (22, .isub, 1), (23, .invokevirtual 92, 3), (26, .istore_n 2, 1), (27, .iload_n 2, 1), (28, .iconst (-1), 1), (29, .if_icmp .ne 7, 3), (32, .iconst (-1), 1), (33, .goto 9, 3), (36, .aload_n 0, 1), (37, .iconst 0, 1), (38, .iconst 3, 1), (39, .invokevirtual 92, 3), (42, .istore_n 3, 1), (43, .iload_n 3, 1), (44, .iconst (-1), 1), (45, .if_icmp .ne 7, 3), (48, .iconst (-1), 1), (49, .goto 10, 3), (52, .aload_n 0, 1), (53, .iconst 0, 1), (54, .bipush 9, 2), (56, .invokevirtual 92, 3), (59, .istore 4, 2), (61, .iload 4, 2), (63, .iconst (-1), 1), (64, .if_icmp .ne 5, 3), (67, .iconst 0, 1), (68, .ireturn, 1), (69, .aload_n 0, 1), (70, .getfield 28, 3), (73, .iload_n 1, 1), (74, .iload_n 2, 1), (75, .iload_n 3, 1), (76, .iload 4, 2), (78, .invokevirtual 117, 3), (81, .iconst 1, 1), (82, .ireturn, 1)] : List (Nat × Instr × Nat)), decode cX4_readChild q.1 = .ok q.2 := by decide +kernel
theorem dt_X4_readNumber : ∀ q ∈ ([(0, .aload_n 0, 1), (1, .invokevirtual 36, 3), (4, .aload_n 0, 1), (5, .getfield 11, 3), (8, .iconst 2, 1), (9, .if_icmp .ne 16, 3), (12, .aload_n 0, 1), (13, .getfield 18, 3), (16, .aload_n 0, 1), (17, .getfield 15, 3), (20, .isub, 1), (21, .iconst 2, 1), (22, .if_icmp .le 5, 3), (25, .iconst (-1), 1), (26, .ireturn, 1), (27, .iconst 0, 1), (28, .istore_n 3, 1), (29, .aload_n 0, 1), (30, .getfield 15, 3), (33, .istore 4, 2), (35, .iload 4, 2), (37, .aload_n 0, 1), (38, .getfield 18, 3), (41, .if_icmp .ge 27, 3), (44, .iload_n 3, 1), (45, .bipush 10, 2), (47, .imul, 1), (48, .aload_n 0, 1), (49, .getfield 24, 3), (52, .iload 4, 2), (54, .invokevirtual 39, 3), (57, .iadd, 1), (58, .bipush 48, 2), (60, .isub, 1), (61, .istore_n 3, 1), (62, .iinc 4 1, 3), (65, .goto (-30), 3), (68, .iload_n 3, 1), (69, .iload_n 1, 1), (70, .iload_n 2, 1), (71, .invokestatic 120, 3), (74, .ifCond .eq 7, 3), (77, .iload_n 3, 1), (78, .goto 4, 3), (81, .iconst (-1), 1), (82, .ireturn, 1)] : List (Nat × Instr × Nat)), decode cX4_readNumber q.1 = .ok q.2 := by decide +kernel
theorem dt_X4_isWord : ∀ q ∈ ([(0, .aload_n 0, 1), (1, .getfield 11, 3), (4, .iconst 1, 1), (5, .if_icmp .ne 19, 3), (8, .aload_n 0, 1), (9, .getfield 18, 3), (12, .aload_n 0, 1), (13, .getfield 15, 3), (16, .isub, 1), (17, .aload_n 1, 1), (18, .invokevirtual 124, 3), (21, .if_icmp .eq 5, 3), (24, .iconst 0, 1), (25, .ireturn, 1), (26, .iconst 0, 1), (27, .istore_n 2, 1), (28, .iload_n 2, 1), (29, .aload_n 1, 1), (30, .invokevirtual 124, 3), (33, .if_icmp .ge 32, 3), (36, .aload_n 0, 1), (37, .getfield 24, 3), (40, .aload_n 0, 1), (41, .getfield 15, 3), (44, .iload_n 2, 1), (45, .iadd, 1), (46, .invokevirtual 39, 3), (49, .aload_n 1, 1), (50, .iload_n 2, 1), (51, .invokevirtual 129, 3), (54, .if_icmp .eq 5, 3), (57, .iconst 0, 1), (58, .ireturn, 1), (59, .iinc 2 1, 3), (62, .goto (-34), 3), (65, .iconst 1, 1), (66, .ireturn, 1)] : List (Nat × Instr × Nat)), decode cX4_isWord q.1 = .ok q.2 := by decide +kernel
theorem dt_X4_toNextToken : ∀ q ∈ ([(0, .aload_n 0, 1), (1, .aload_n 0, 1), (2, .getfield 18, 3), (5, .putfield 15, 3), (8, .aload_n 0, 1), (9, .getfield 15, 3), (12, .aload_n 0, 1), (13, .getfield 24, 3), (16, .getfield 133, 3), (19, .if_icmp .ge 32, 3), (22, .aload_n 0, 1), (23, .getfield 24, 3), (26, .aload_n 0, 1), (27, .getfield 15, 3), (30, .invokevirtual 39, 3), (33, .bipush 32, 2), (35, .if_icmp .ne 16, 3), (38, .aload_n 0, 1), (39, .dup, 1), (40, .getfield 15, 3), (43, .iconst 1, 1), (44, .iadd, 1), (45, .putfield 15, 3), (48, .goto (-40), 3), (51, .aload_n 0, 1), (52, .aload_n 0, 1), (53, .getfield 24, 3), (56, .aload_n 0, 1), (57, .getfield 15, 3), (60, .invokevirtual 39, 3), (63, .invokestatic 135, 3), (66, .putfield 11, 3), (69, .aload_n 0, 1), (70, .aload_n 0, 1), (71, .getfield 11, 3), (74, .ifCond .ne 10, 3), (77, .aload_n 0, 1), (78, .getfield 15, 3), (81, .goto 9, 3), (84, .aload_n 0, 1), (85, .getfield 15, 3), (88, .iconst 1, 1), (89, .iadd, 1), (90, .putfield 18, 3), (93, .aload_n 0, 1), (94, .getfield 11, 3), (97, .iconst 1, 1), (98, .if_icmp .eq 11, 3), (101, .aload_n 0, 1), (102, .getfield 11, 3), (105, .iconst 2, 1), (106, .if_icmp .ne 7, 3), (109, .iconst 1, 1), (110, .goto 4, 3), (113, .iconst 0, 1), (114, .istore_n 1, 1), (115, .iload_n 1, 1), (116, .ifCond .eq 51, 3), (119, .aload_n 0, 1), (120, .getfield 18, 3), (123, .aload_n 0, 1), (124, .getfield 24, 3), (127, .getfield 133, 3), (130, .if_icmp .ge 37, 3), (133, .aload_n 0, 1), (134, .getfield 24, 3), (137, .aload_n 0, 1), (138, .getfield 18, 3), (141, .invokevirtual 39, 3), (144, .invokestatic 135, 3), (147, .aload_n 0, 1), (148, .getfield 11, 3), (151, .if_icmp .ne 16, 3), (154, .aload_n 0, 1), (155, .dup, 1), (156, .getfield 18, 3), (159, .iconst 1, 1), (160, .iadd, 1), (161, .putfield 18, 3), (164, .goto (-49), 3), (167, .return_, 1)] : List (Nat × Instr × Nat)), decode cX4_toNextToken q.1 = .ok q.2 := by decide +kernel
theorem dt_X4_sortOf : ∀ q ∈ ([(0, .iload_n 0, 1), (1, .iconst (-1), 1), (2, .if_icmp .ne 5, 3), (5, .iconst 0, 1), (6, .ireturn, 1), (7, .iload_n 0, 1), (8, .bipush 97, 2), (10, .if_icmp .lt 11, 3), (13, .iload_n 0, 1), (14, .bipush 122, 2), (16, .if_icmp .gt 5, 3), (19, .iconst 1, 1), (20, .ireturn, 1), (21, .iload_n 0, 1), (22, .bipush 48, 2), (24, .if_icmp .lt 13, 3), (27, .iload_n 0, 1), (28, .bipush 57, 2), (30, .if_icmp .gt 7, 3), (33, .iconst 2, 1), (34, .goto 4, 3), (37, .iconst 3, 1), (38, .ireturn, 1)] : List (Nat × Instr × Nat)), decode cX4_sortOf q.1 = .ok q.2 := by decide +kernel
theorem dt_X5_init : ∀ q ∈ ([(0, .aload_n 0, 1), (1, .invokespecial 3, 3), (4, .aload_n 0, 1), (5, .bipush 19, 2), (7, .newarray .long, 2), (9, .putfield 9, 3), (12, .aload_n 0, 1), (13, .lconst 0, 1), (14, .putfield 15, 3), (17, .aload_n 0, 1), (18, .lconst 1, 1), (19, .putfield 19, 3), (22, .return_, 1)] : List (Nat × Instr × Nat)), decode cX5_init q.1 = .ok q.2 := by decide +kernel
theorem dt_X5_reckon : ∀ q ∈ ([(0, .aload_n 0, 1), (1, .iload_n 2, 1), (2, .iload_n 3, 1), (3, .invokevirtual 22, 3), (6, .aload_n 0, 1), (7, .lconst 0, 1), (8, .putfield 15, 3), (11, .aload_n 0, 1), (12, .lconst 1, 1), (13, .putfield 19, 3), (16, .iconst 0, 1), (17, .istore 4, 2), (19, .iload 4, 2), (21, .iload_n 2, 1), (22, .if_icmp .ge 21, 3), (25, .aload_n 0, 1), (26, .dup, 1), (27, .getfield 19, 3), (30, .ldc2_w 26, 3), (33, .lmul, 1), (34, .putfield 19, 3), (37, .iinc 4 1, 3), (40, .goto (-21), 3), (43, .iconst 0, 1), (44, .istore 4, 2), (46, .iload 4, 2), (48, .iload_n 2, 1), (49, .if_icmp .gt 47, 3), (52, .iload 4, 2), (54, .bipush 18, 2), (56, .if_icmp .gt 40, 3), (59, .aload_n 0, 1), (60, .dup, 1), (61, .getfield 15, 3), (64, .iload_n 1, 1), (65, .iconst (-1), 1), (66, .if_icmp .eq 19, 3), (69, .iload 4, 2), (71, .iload_n 1, 1), (72, .if_icmp .lt 13, 3), (75, .aload_n 0, 1), (76, .getfield 9, 3), (79, .iload 4, 2), (81, .laload, 1), (82, .goto 4, 3), (85, .lconst 0, 1), (86, .ladd, 1), (87, .putfield 15, 3), (90, .iinc 4 1, 3), (93, .goto (-47), 3), (96, .iconst 0, 1), (97, .istore 4, 2), (99, .iload 4, 2), (101, .iload_n 2, 1), (102, .if_icmp .ge 19, 3), (105, .aload_n 0, 1), (106, .iconst 2, 1), (107, .invokevirtual 28, 3), (110, .aload_n 0, 1), (111, .iconst 5, 1), (112, .invokevirtual 28, 3), (115, .iinc 4 1, 3), (118, .goto (-19), 3), (121, .return_, 1)] : List (Nat × Instr × Nat)), decode cX5_reckon q.1 = .ok q.2 := by decide +kernel
theorem dt_X5_countWays : ∀ q ∈ ([(0, .aload_n 0, 1), (1, .getfield 9, 3), (4, .lconst 0, 1), (5, .invokestatic 32, 3), (8, .aload_n 0, 1), (9, .getfield 9, 3), (12, .iconst 0, 1), (13, .lconst 1, 1), (14, .lastore, 1), (15, .iconst 1, 1), (16, .istore_n 3, 1), (17, .iload_n 3, 1), (18, .iload_n 1, 1), (19, .if_icmp .gt 76, 3), (22, .iload_n 3, 1), (23, .bipush 18, 2), (25, .if_icmp .gt 70, 3), (28, .iload_n 3, 1), (29, .istore 4, 2), (31, .iload 4, 2), (33, .ifCond .le 42, 3), (36, .aload_n 0, 1), (37, .getfield 9, 3), (40, .iload 4, 2), (42, .aload_n 0, 1), (43, .getfield 9, 3), (46, .iload 4, 2), (48, .laload, 1), (49, .bipush 10, 2), (51, .iload_n 2, 1), (52, .isub, 1), (53, .i2l, 1), (54, .lmul, 1), (55, .aload_n 0, 1), (56, .getfield 9, 3), (59, .iload 4, 2), (61, .iconst 1, 1), (62, .isub, 1), (63, .laload, 1), (64, .iload_n 2, 1), (65, .i2l, 1), (66, .lmul, 1), (67, .ladd, 1), (68, .lastore, 1), (69, .iinc 4 (-1), 3), (72, .goto (-41), 3), (75, .aload_n 0, 1), (76, .getfield 9, 3), (79, .iconst 0, 1), (80, .dup2, 1), (81, .laload, 1), (82, .bipush 10, 2), (84, .iload_n 2, 1), (85, .isub, 1), (86, .i2l, 1), (87, .lmul, 1), (88, .lastore, 1), (89, .iinc 3 1, 3), (92, .goto (-75), 3), (95, .return_, 1)] : List (Nat × Instr × Nat)), decode cX5_countWays q.1 = .ok q.2 := by decide +kernel
theorem dt_X5_cancel : ∀ q ∈ ([(0, .iload_n 1, 1), (1, .ifCond .le 49, 3), (4, .aload_n 0, 1), (5, .getfield 15, 3), (8, .iload_n 1, 1), (9, .i2l, 1), (10, .lrem, 1), (11, .lconst 0, 1), (12, .lcmp, 1), (13, .ifCond .ne 37, 3), (16, .aload_n 0, 1), (17, .getfield 19, 3), (20, .iload_n 1, 1), (21, .i2l, 1), (22, .lrem, 1), (23, .lconst 0, 1), (24, .lcmp, 1), (25, .ifCond .ne 25, 3), (28, .aload_n 0, 1), (29, .dup, 1), (30, .getfield 15, 3), (33, .iload_n 1, 1), (34, .i2l, 1), (35, .ldiv, 1), (36, .putfield 15, 3), (39, .aload_n 0, 1), (40, .dup, 1), (41, .getfield 19, 3), (44, .iload_n 1, 1), (45, .i2l, 1), (46, .ldiv, 1), (47, .putfield 19, 3), (50, .return_, 1)] : List (Nat × Instr × Nat)), decode cX5_cancel q.1 = .ok q.2 := by decide +kernel
theorem dt_X6_init : ∀ q ∈ ([(0, .aload_n 0, 1), (1, .invokespecial 3, 3), (4, .aload_n 0, 1), (5, .sipush 200, 3), (8, .newarray .byte, 2), (10, .putfield 9, 3), (13, .aload_n 0, 1), (14, .iconst 0, 1), (15, .putfield 15, 3), (18, .return_, 1)] : List (Nat × Instr × Nat)), decode cX6_init q.1 = .ok q.2 := by decide +kernel
theorem dt_X6_hasRoomFor : ∀ q ∈ ([(0, .iload_n 1, 1), (1, .sipush 200, 3), (4, .aload_n 0, 1), (5, .getfield 15, 3), (8, .isub, 1), (9, .if_icmp .gt 7, 3), (12, .iconst 1, 1), (13, .goto 4, 3), (16, .iconst 0, 1), (17, .ireturn, 1)] : List (Nat × Instr × Nat)), decode cX6_hasRoomFor q.1 = .ok q.2 := by decide +kernel
theorem dt_X6_add : ∀ q ∈ ([(0, .iconst 0, 1), (1, .istore 4, 2), (3, .iload 4, 2), (5, .iload_n 3, 1), (6, .if_icmp .ge 47, 3), (9, .aload_n 0, 1), (10, .getfield 15, 3), (13, .sipush 200, 3), (16, .if_icmp .ge 37, 3), (19, .aload_n 0, 1), (20, .getfield 9, 3), (23, .aload_n 0, 1), (24, .getfield 15, 3), (27, .lload_n 1, 1), (28, .bipush 8, 2), (30, .iload 4, 2), (32, .imul, 1), (33, .lshr, 1), (34, .l2i, 1), (35, .i2b, 1), (36, .bastore, 1), (37, .aload_n 0, 1), (38, .dup, 1), (39, .getfield 15, 3), (42, .iconst 1, 1), (43, .iadd, 1), (44, .putfield 15, 3), (47, .iinc 4 1, 3), (50, .goto (-47), 3), (53, .return_, 1)] : List (Nat × Instr × Nat)), decode cX6_add q.1 = .ok q.2 := by decide +kernel
theorem dt_X6_signAt : ∀ q ∈ ([(0, .iload_n 1, 1), (1, .ifCond .lt 24, 3), (4, .iload_n 1, 1), (5, .aload_n 0, 1), (6, .getfield 15, 3), (9, .if_icmp .ge 16, 3), (12, .aload_n 0, 1), (13, .getfield 9, 3), (16, .iload_n 1, 1), (17, .baload, 1), (18, .sipush 255, 3), (21, .iand, 1), (22, .goto 4, 3), (25, .iconst (-1), 1), (26, .ireturn, 1)] : List (Nat × Instr × Nat)), decode cX6_signAt q.1 = .ok q.2 := by decide +kernel
theorem dt_X7_init : ∀ q ∈ ([(0, .aload_n 0, 1), (1, .invokespecial 3, 3), (4, .aload_n 0, 1), (5, .bipush 12, 2), (7, .putfield 9, 3), (10, .aload_n 0, 1), (11, .bipush 12, 2), (13, .newarray .int, 2), (15, .putfield 15, 3), (18, .aload_n 0, 1), (19, .iconst 0, 1), (20, .putfield 19, 3), (23, .aload_n 0, 1), (24, .bipush 6, 2), (26, .newarray .int, 2), (28, .putfield 22, 3), (31, .aload_n 0, 1), (32, .bipush 6, 2), (34, .newarray .int, 2), (36, .putfield 25, 3), (39, .aload_n 0, 1), (40, .bipush 6, 2), (42, .newarray .int, 2), (44, .putfield 28, 3), (47, .aload_n 0, 1), (48, .bipush 6, 2), (50, .newarray .int, 2), (52, .putfield 31, 3), (55, .aload_n 0, 1), (56, .iconst 0, 1), (57, .putfield 34, 3), (60, .aload_n 0, 1), (61, .iconst 5, 1), (62, .newarray .int, 2), (64, .putfield 37, 3), (67, .aload_n 0, 1), (68, .iconst 5, 1), (69, .newarray .int, 2), (71, .putfield 40, 3), (74, .aload_n 0, 1), (75, .iconst 5, 1), (76, .newarray .int, 2), (78, .putfield 43, 3), (81, .aload_n 0, 1), (82, .iconst 5, 1), (83, .newarray .int, 2), (85, .putfield 46, 3), (88, .return_, 1)] : List (Nat × Instr × Nat)), decode cX7_init q.1 = .ok q.2 := by decide +kernel
theorem dt_X7_copyFrom : ∀ q ∈ ([(0, .aload_n 0, 1), (1, .aload_n 1, 1), (2, .getfield 9, 3), (5, .putfield 9, 3), (8, .aload_n 1, 1), (9, .getfield 15, 3), (12, .iconst 0, 1), (13, .aload_n 0, 1), (14, .getfield 15, 3), (17, .iconst 0, 1), (18, .bipush 12, 2), (20, .invokestatic 49, 3), (23, .aload_n 0, 1), (24, .aload_n 1, 1), (25, .getfield 19, 3), (28, .putfield 19, 3), (31, .aload_n 1, 1), (32, .getfield 22, 3), (35, .iconst 0, 1), (36, .aload_n 0, 1), (37, .getfield 22, 3), (40, .iconst 0, 1), (41, .bipush 6, 2), (43, .invokestatic 49, 3), (46, .aload_n 1, 1), (47, .getfield 25, 3), (50, .iconst 0, 1), (51, .aload_n 0, 1), (52, .getfield 25, 3), (55, .iconst 0, 1), (56, .bipush 6, 2), (58, .invokestatic 49, 3), (61, .aload_n 1, 1), (62, .getfield 28, 3), (65, .iconst 0, 1), (66, .aload_n 0, 1), (67, .getfield 28, 3), (70, .iconst 0, 1), (71, .bipush 6, 2), (73, .invokestatic 49, 3), (76, .aload_n 1, 1), (77, .getfield 31, 3), (80, .iconst 0, 1), (81, .aload_n 0, 1), (82, .getfield 31, 3), (85, .iconst 0, 1), (86, .bipush 6, 2), (88, .invokestatic 49, 3), (91, .aload_n 0, 1), (92, .aload_n 1, 1), (93, .getfield 34, 3), (96, .putfield 34, 3), (99, .aload_n 1, 1), (100, .getfield 37, 3), (103, .iconst 0, 1), (104, .aload_n 0, 1), (105, .getfield 37, 3), (108, .iconst 0, 1), (109, .iconst 5, 1), (110, .invokestatic 49, 3), (113, .aload_n 1, 1), (114, .getfield 40, 3), (117, .iconst 0, 1), (118, .aload_n 0, 1), (119, .getfield 40, 3), (122, .iconst 0, 1), (123, .iconst 5, 1), (124, .invokestatic 49, 3), (127, .aload_n 1, 1), (128, .getfield 43, 3), (131, .iconst 0, 1), (132, .aload_n 0, 1), (133, .getfield 43, 3), (136, .iconst 0, 1), (137, .iconst 5, 1), (138, .invokestatic 49, 3), (141, .aload_n 1, 1), (142, .getfield 46, 3), (145, .iconst 0, 1), (146, .aload_n 0, 1), (147, .getfield 46, 3), (150, .iconst 0, 1), (151, .iconst 5, 1), (152, .invokestatic 49, 3), (155, .return_, 1)] : List (Nat × Instr × Nat)), decode cX7_copyFrom q.1 = .ok q.2 := by decide +kernel
theorem dt_X7_startAnew : ∀ q ∈ ([(0, .aload_n 0, 1), (1, .iload_n 1, 1), (2, .putfield 9, 3), (5, .aload_n 0, 1), (6, .getfield 15, 3), (9, .iconst 0, 1), (10, .invokestatic 55, 3), (13, .aload_n 0, 1), (14, .iconst 0, 1), (15, .putfield 19, 3), (18, .aload_n 0, 1), (19, .iconst 0, 1), (20, .putfield 34, 3), (23, .return_, 1)] : List (Nat × Instr × Nat)), decode cX7_startAnew q.1 = .ok q.2 := by decide +kernel
theorem dt_X7_hasRoomForSeep : ∀ q ∈ ([(0, .aload_n 0, 1), (1, .getfield 19, 3), (4, .bipush 6, 2), (6, .if_icmp .ge 7, 3), (9, .iconst 1, 1), (10, .goto 4, 3), (13, .iconst 0, 1), (14, .ireturn, 1)] : List (Nat × Instr × Nat)), decode cX7_hasRoomForSeep q.1 = .ok q.2 := by decide +kernel
theorem dt_X7_addSeep : ∀ q ∈ ([(0, .aload_n 0, 1), (1, .invokevirtual 61, 3), (4, .ifCond .ne 4, 3), (7, .return_, 1), (8, .aload_n 0, 1), (9, .getfield 22, 3), (12, .aload_n 0, 1), (13, .getfield 19, 3), (16, .iload_n 1, 1), (17, .iastore, 1), (18, .aload_n 0, 1), (19, .getfield 25, 3), (22, .aload_n 0, 1), (23, .getfield 19, 3), (26, .iload_n 2, 1), (27, .iastore, 1), (28, .aload_n 0, 1), (29, .getfield 28, 3), (32, .aload_n 0, 1), (33, .getfield 19, 3), (36, .iload_n 3, 1), (37, .iastore, 1), (38, .aload_n 0, 1), (39, .getfield 31, 3), (42, .aload_n 0, 1), (43, .getfield 19, 3), (46, .iload 4, 2), (48, .iastore, 1), (49, .aload_n 0, 1), (50, .dup, 1), (51, .getfield 19, 3), (54, .iconst 1, 1), (55, .iadd, 1), (56, .putfield 19, 3), (59, .return_, 1)] : List (Nat × Instr × Nat)), decode cX7_addSeep q.1 = .ok q.2 := by decide +kernel
theorem dt_X7_hasRoomForChild : ∀ q ∈ ([(0, .aload_n 0, 1), (1, .getfield 34, 3), (4, .iconst 5, 1), (5, .if_icmp .ge 7, 3), (8, .iconst 1, 1), (9, .goto 4, 3), (12, .iconst 0, 1), (13, .ireturn, 1)] : List (Nat × Instr × Nat)), decode cX7_hasRoomForChild q.1 = .ok q.2 := by decide +kernel
theorem dt_X7_addChild : ∀ q ∈ ([(0, .aload_n 0, 1), (1, .invokevirtual 65, 3), (4, .ifCond .ne 4, 3), (7, .return_, 1), (8, .aload_n 0, 1), (9, .getfield 37, 3), (12, .aload_n 0, 1), (13, .getfield 34, 3), (16, .iload_n 1, 1), (17, .iastore, 1), (18, .aload_n 0, 1), (19, .getfield 40, 3), (22, .aload_n 0, 1), (23, .getfield 34, 3), (26, .iload_n 2, 1), (27, .iastore, 1), (28, .aload_n 0, 1), (29, .getfield 43, 3), (32, .aload_n 0, 1), (33, .getfield 34, 3), (36, .iload_n 3, 1), (37, .iastore, 1), (38, .aload_n 0, 1), (39, .getfield 46, 3), (42, .aload_n 0, 1), (43, .getfield 34, 3), (46, .iload 4, 2), (48, .iastore, 1), (49, .aload_n 0, 1), (50, .dup, 1), (51, .getfield 34, 3), (54, .iconst 1, 1), (55, .iadd, 1), (56, .putfield 34, 3), (59, .return_, 1)] : List (Nat × Instr × Nat)), decode cX7_addChild q.1 = .ok q.2 := by decide +kernel
theorem dt_X7_hasYard : ∀ q ∈ ([(0, .iload_n 1, 1), (1, .ifCond .lt 15, 3), (4, .iload_n 1, 1), (5, .aload_n 0, 1), (6, .getfield 9, 3), (9, .if_icmp .ge 7, 3), (12, .iconst 1, 1), (13, .goto 4, 3), (16, .iconst 0, 1), (17, .ireturn, 1)] : List (Nat × Instr × Nat)), decode cX7_hasYard q.1 = .ok q.2 := by decide +kernel
theorem dt_X7_hasSeep : ∀ q ∈ ([(0, .iload_n 1, 1), (1, .ifCond .lt 15, 3), (4, .iload_n 1, 1), (5, .aload_n 0, 1), (6, .getfield 19, 3), (9, .if_icmp .ge 7, 3), (12, .iconst 1, 1), (13, .goto 4, 3), (16, .iconst 0, 1), (17, .ireturn, 1)] : List (Nat × Instr × Nat)), decode cX7_hasSeep q.1 = .ok q.2 := by decide +kernel
theorem dt_X7_hasChild : ∀ q ∈ ([(0, .iload_n 1, 1), (1, .ifCond .lt 15, 3), (4, .iload_n 1, 1), (5, .aload_n 0, 1), (6, .getfield 34, 3), (9, .if_icmp .ge 7, 3), (12, .iconst 1, 1), (13, .goto 4, 3), (16, .iconst 0, 1), (17, .ireturn, 1)] : List (Nat × Instr × Nat)), decode cX7_hasChild q.1 = .ok q.2 := by decide +kernel
theorem dt_X7_hasSeeps : ∀ q ∈ ([(0, .aload_n 0, 1), (1, .getfield 19, 3), (4, .iload_n 1, 1), (5, .invokestatic 68, 3), (8, .ireturn, 1)] : List (Nat × Instr × Nat)), decode cX7_hasSeeps q.1 = .ok q.2 := by decide +kernel
theorem dt_X7_hasChildren : ∀ q ∈ ([(0, .aload_n 0, 1), (1, .getfield 34, 3), (4, .iload_n 1, 1), (5, .invokestatic 68, 3), (8, .ireturn, 1)] : List (Nat × Instr × Nat)), decode cX7_hasChildren q.1 = .ok q.2 := by decide +kernel
theorem dt_X7_tideAt : ∀ q ∈ ([(0, .aload_n 0, 1), (1, .getfield 15, 3), (4, .iload_n 1, 1), (5, .bipush 12, 2), (7, .invokestatic 72, 3), (10, .iaload, 1), (11, .ireturn, 1)] : List (Nat × Instr × Nat)), decode cX7_tideAt q.1 = .ok q.2 := by decide +kernel
theorem dt_X7_grown : ∀ q ∈ ([(0, .aload_n 0, 1), (1, .iload_n 3, 1), (2, .invokevirtual 78, 3), (5, .aload_n 0, 1), (6, .getfield 31, 3), (9, .iload_n 1, 1), (10, .iaload, 1), (11, .if_icmp .lt 19, 3), (14, .bipush 100, 2), (16, .iload_n 2, 1), (17, .aload_n 0, 1), (18, .getfield 28, 3), (21, .iload_n 1, 1), (22, .iaload, 1), (23, .iadd, 1), (24, .invokestatic 82, 3), (27, .goto 4, 3), (30, .iload_n 2, 1), (31, .ireturn, 1)] : List (Nat × Instr × Nat)), decode cX7_grown q.1 = .ok q.2 := by decide +kernel
theorem dt_J6_compare_7cf53 : ∀ q ∈ ([(0, .iload_n 0, 1), (1, .iload_n 1, 1), (2, .if_icmp .ge 7, 3), (5, .iconst (-1), 1), (6, .goto 13, 3), (9, .iload_n 0, 1), (10, .iload_n 1, 1), (11, .if_icmp .ne 7, 3), (14, .iconst 0, 1), (15, .goto 4, 3), (18, .iconst 1, 1), (19, .ireturn, 1)] : List (Nat × Instr × Nat)), decode cJ6_compare_7cf53 q.1 = .ok q.2 := by decide +kernel
theorem dt_J6_bitCount_0f7a4 : ∀ q ∈ ([(0, .iload_n 0, 1), (1, .iload_n 0, 1), (2, .iconst 1, 1), (3, .iushr, 1), (4, .ldc_w 265, 3), (7, .iand, 1), (8, .isub, 1), (9, .istore_n 0, 1), (10, .iload_n 0, 1), (11, .ldc_w 266, 3), (14, .iand, 1), (15, .iload_n 0, 1), (16, .iconst 2, 1), (17, .iushr, 1), (18, .ldc_w 266, 3), (21, .iand, 1), (22, .iadd, 1), (23, .istore_n 0, 1), (24, .iload_n 0, 1), (25, .iload_n 0, 1), (26, .iconst 4, 1), (27, .iushr, 1), (28, .iadd, 1), (29, .ldc_w 267, 3), (32, .iand, 1), (33, .istore_n 0, 1), (34, .iload_n 0, 1), (35, .iload_n 0, 1), (36, .bipush 8, 2), (38, .iushr, 1), (39, .iadd, 1), (40, .istore_n 0, 1), (41, .iload_n 0, 1), (42, .iload_n 0, 1), (43, .bipush 16, 2), (45, .iushr, 1), (46, .iadd, 1), (47, .istore_n 0, 1), (48, .iload_n 0, 1), (49, .bipush 63, 2), (51, .iand, 1), (52, .ireturn, 1)] : List (Nat × Instr × Nat)), decode cJ6_bitCount_0f7a4 q.1 = .ok q.2 := by decide +kernel
theorem dt_J9_floorMod_7cf53 : ∀ q ∈ ([(0, .iload_n 0, 1), (1, .iload_n 1, 1), (2, .irem, 1), (3, .istore_n 2, 1), (4, .iload_n 0, 1), (5, .iload_n 1, 1), (6, .ixor, 1), (7, .ifCond .ge 11, 3), (10, .iload_n 2, 1), (11, .ifCond .eq 7, 3), (14, .iload_n 2, 1), (15, .iload_n 1, 1), (16, .iadd, 1), (17, .ireturn, 1), (18, .iload_n 2, 1), (19, .ireturn, 1)] : List (Nat × Instr × Nat)), decode cJ9_floorMod_7cf53 q.1 = .ok q.2 := by decide +kernel
theorem dt_J9_abs_0f7a4 : ∀ q ∈ ([(0, .iload_n 0, 1), (1, .ifCond .ge 8, 3), (4, .iload_n 0, 1), (5, .ineg, 1), (6, .goto 4, 3), (9, .iload_n 0, 1), (10, .ireturn, 1)] : List (Nat × Instr × Nat)), decode cJ9_abs_0f7a4 q.1 = .ok q.2 := by decide +kernel
theorem dt_J9_max_7cf53 : ∀ q ∈ ([(0, .iload_n 0, 1), (1, .iload_n 1, 1), (2, .if_icmp .lt 7, 3), (5, .iload_n 0, 1), (6, .goto 4, 3), (9, .iload_n 1, 1), (10, .ireturn, 1)] : List (Nat × Instr × Nat)), decode cJ9_max_7cf53 q.1 = .ok q.2 := by decide +kernel
theorem dt_J9_min_7cf53 : ∀ q ∈ ([(0, .iload_n 0, 1), (1, .iload_n 1, 1), (2, .if_icmp .gt 7, 3), (5, .iload_n 0, 1), (6, .goto 4, 3), (9, .iload_n 1, 1), (10, .ireturn, 1)] : List (Nat × Instr × Nat)), decode cJ9_min_7cf53 q.1 = .ok q.2 := by decide +kernel
theorem dt_J0_length_8abf5 : ∀ q ∈ ([(0, .aload_n 0, 1), (1, .getfield 9, 3), (4, .arraylength, 1), (5, .aload_n 0, 1), (6, .invokevirtual 335, 3), (9, .ishr, 1), (10, .ireturn, 1)] : List (Nat × Instr × Nat)), decode cJ0_length_8abf5 q.1 = .ok q.2 := by decide +kernel
theorem dt_J0_charAt_5068e : ∀ q ∈ ([(0, .aload_n 0, 1), (1, .invokevirtual 492, 3), (4, .ifCond .eq 12, 3), (7, .aload_n 0, 1), (8, .getfield 9, 3), (11, .iload_n 1, 1), (12, .invokestatic 495, 3), (15, .ireturn, 1), (16, .aload_n 0, 1), (17, .getfield 9, 3), (20, .iload_n 1, 1), (21, .invokestatic 498, 3), (24, .ireturn, 1)] : List (Nat × Instr × Nat)), decode cJ0_charAt_5068e q.1 = .ok q.2 := by decide +kernel
theorem dt_J0_coder_7d493 : ∀ q ∈ ([(0, .getstatic 38, 3), (3, .ifCond .eq 10, 3), (6, .aload_n 0, 1), (7, .getfield 15, 3), (10, .goto 4, 3), (13, .iconst 1, 1), (14, .ireturn, 1)] : List (Nat × Instr × Nat)), decode cJ0_coder_7d493 q.1 = .ok q.2 := by decide +kernel
theorem dt_J0_isLatin1_aae02 : ∀ q ∈ ([(0, .getstatic 38, 3), (3, .ifCond .eq 14, 3), (6, .aload_n 0, 1), (7, .getfield 15, 3), (10, .ifCond .ne 7, 3), (13, .iconst 1, 1), (14, .goto 4, 3), (17, .iconst 0, 1), (18, .ireturn, 1)] : List (Nat × Instr × Nat)), decode cJ0_isLatin1_aae02 q.1 = .ok q.2 := by decide +kernel
theorem dt_J0_checkIndex_df160 : ∀ q ∈ ([(0, .iload_n 0, 1), (1, .iload_n 1, 1), (2, .getstatic 1053, 3), (5, .invokestatic 1059, 3), (8, .pop, 1), (9, .return_, 1)] : List (Nat × Instr × Nat)), decode cJ0_checkIndex_df160 q.1 = .ok q.2 := by decide +kernel
theorem dt_J1_charAt_3b067 : ∀ q ∈ ([(0, .iload_n 1, 1), (1, .aload_n 0, 1), (2, .arraylength, 1), (3, .invokestatic 9, 3), (6, .aload_n 0, 1), (7, .iload_n 1, 1), (8, .baload, 1), (9, .sipush 255, 3), (12, .iand, 1), (13, .i2c, 1), (14, .ireturn, 1)] : List (Nat × Instr × Nat)), decode cJ1_charAt_3b067 q.1 = .ok q.2 := by decide +kernel
theorem dt_J2_getChar_3b067 : ∀ q ∈ ([(0, .getstatic 44, 3), (3, .ifCond .ne 25, 3), (6, .iload_n 1, 1), (7, .ifCond .lt 11, 3), (10, .iload_n 1, 1), (11, .aload_n 0, 1), (12, .invokestatic 48, 3), (15, .if_icmp .lt 13, 3), (18, .new 52, 3), (21, .dup, 1), (22, .ldc 54, 2), (24, .invokespecial 56, 3), (27, .athrow, 1), (28, .iload_n 1, 1), (29, .iconst 1, 1), (30, .ishl, 1), (31, .istore_n 1, 1), (32, .aload_n 0, 1), (33, .iload_n 1, 1), (34, .iinc 1 1, 3), (37, .baload, 1), (38, .sipush 255, 3), (41, .iand, 1), (42, .getstatic 59, 3), (45, .ishl, 1), (46, .aload_n 0, 1), (47, .iload_n 1, 1), (48, .baload, 1), (49, .sipush 255, 3), (52, .iand, 1), (53, .getstatic 63, 3), (56, .ishl, 1), (57, .ior, 1), (58, .i2c, 1), (59, .ireturn, 1)] : List (Nat × Instr × Nat)), decode cJ2_getChar_3b067 q.1 = .ok q.2 := by decide +kernel
theorem dt_J2_length_9d52b : ∀ q ∈ ([(0, .aload_n 0, 1), (1, .arraylength, 1), (2, .iconst 1, 1), (3, .ishr, 1), (4, .ireturn, 1)] : List (Nat × Instr × Nat)), decode cJ2_length_9d52b q.1 = .ok q.2 := by decide +kernel
theorem dt_J2_charAt_3b067 : ∀ q ∈ ([(0, .iload_n 1, 1), (1, .aload_n 0, 1), (2, .invokestatic 67, 3), (5, .aload_n 0, 1), (6, .iload_n 1, 1), (7, .invokestatic 71, 3), (10, .ireturn, 1)] : List (Nat × Instr × Nat)), decode cJ2_charAt_3b067 q.1 = .ok q.2 := by decide +kernel
theorem dt_J2_checkIndex_2214a : ∀ q ∈ ([(0, .iload_n 0, 1), (1, .aload_n 1, 1), (2, .invokestatic 48, 3), (5, .invokestatic 414, 3), (8, .return_, 1)] : List (Nat × Instr × Nat)), decode cJ2_checkIndex_2214a q.1 = .ok q.2 := by decide +kernel
theorem dt_J7_fill_d0a16 : ∀ q ∈ ([(0, .iconst 0, 1), (1, .istore_n 3, 1), (2, .aload_n 0, 1), (3, .arraylength, 1), (4, .istore 4, 2), (6, .iload_n 3, 1), (7, .iload 4, 2), (9, .if_icmp .ge 13, 3), (12, .aload_n 0, 1), (13, .iload_n 3, 1), (14, .lload_n 1, 1), (15, .lastore, 1), (16, .iinc 3 1, 3), (19, .goto (-13), 3), (22, .return_, 1)] : List (Nat × Instr × Nat)), decode cJ7_fill_d0a16 q.1 = .ok q.2 := by decide +kernel
theorem dt_J7_fill_53178 : ∀ q ∈ ([(0, .iconst 0, 1), (1, .istore_n 2, 1), (2, .aload_n 0, 1), (3, .arraylength, 1), (4, .istore_n 3, 1), (5, .iload_n 2, 1), (6, .iload_n 3, 1), (7, .if_icmp .ge 13, 3), (10, .aload_n 0, 1), (11, .iload_n 2, 1), (12, .iload_n 1, 1), (13, .iastore, 1), (14, .iinc 2 1, 3), (17, .goto (-12), 3), (20, .return_, 1)] : List (Nat × Instr × Nat)), decode cJ7_fill_53178 q.1 = .ok q.2 := by decide +kernel
theorem dt_J3_checkIndex_8e157 : ∀ q ∈ ([(0, .iload_n 0, 1), (1, .ifCond .lt 8, 3), (4, .iload_n 0, 1), (5, .iload_n 1, 1), (6, .if_icmp .lt 10, 3), (9, .aload_n 2, 1), (10, .iload_n 0, 1), (11, .iload_n 1, 1), (12, .invokestatic 95, 3), (15, .athrow, 1), (16, .iload_n 0, 1), (17, .ireturn, 1)] : List (Nat × Instr × Nat)), decode cJ3_checkIndex_8e157 q.1 = .ok q.2 := by decide +kernel
end
section
theorem dt_X8_init : ∀ q ∈ ([(0, .aload_n 0, 1), (1, .invokespecial 1, 3), (4, .new 7, 3), (7, .dup, 1), (8, .invokespecial 9, 3), (11, .astore_n 1, 1), (12, .new 10, 3), (15, .dup, 1), (16, .invokespecial 12, 3), (19, .astore_n 2, 1), (20, .new 10, 3), (23, .dup, 1), (24, .invokespecial 12, 3), (27, .astore_n 3, 1), (28, .new 13, 3), (31, .dup, 1), (32, .aload_n 2, 1), (33, .invokespecial 15, 3), (36, .astore 4, 2), (38, .new 18, 3), (41, .dup, 1), (42, .aload_n 2, 1), (43, .aload 4, 2), (45, .new 13, 3), (48, .dup, 1), (49, .aload_n 2, 1), (50, .invokespecial 15, 3), (53, .invokespecial 20, 3), (56, .astore 5, 2), (58, .aload_n 0, 1), (59, .aload_n 1, 1), (60, .putfield 23, 3), (63, .aload_n 0, 1), (64, .aload_n 2, 1), (65, .putfield 29, 3), (68, .aload_n 0, 1), (69, .aload_n 3, 1), (70, .putfield 33, 3), (73, .aload_n 0, 1), (74, .new 36, 3), (77, .dup, 1), (78, .aload_n 1, 1), (79, .aload_n 3, 1), (80, .invokespecial 38, 3), (83, .putfield 41, 3), (86, .aload_n 0, 1), (87, .aload 4, 2), (89, .putfield 45, 3), (92, .aload_n 0, 1), (93, .new 13, 3), (96, .dup, 1), (97, .aload_n 2, 1), (98, .invokespecial 15, 3), (101, .putfield 49, 3), (104, .aload_n 0, 1), (105, .new 13, 3), (108, .dup, 1), (109, .aload_n 2, 1), (110, .invokespecial 15, 3), (113, .putfield 52, 3), (116, .aload_n 0, 1), (117, .iconst 0, 1), (118, .putfield 55, 3), (121, .aload_n 0, 1), (122, .aload 5, 2), (124, .putfield 59, 3), (127, .aload_n 0, 1), (128, .new 63, 3), (131, .dup, 1), (132, .aload_n 2, 1), (133, .aload 5, 2), (135, .invokespecial 65, 3), (138, .putfield 68, 3), (141, .aload_n 0, 1), (142, .new 72, 3), (145, .dup, 1), (146, .invokespecial 74, 3), (149, .putfield 75, 3), (152, .aload_n 0, 1), (153, .new 79, 3), (156, .dup, 1), (157, .invokespecial 81, 3), (160, .putfield 82, 3), (163, .return_, 1)] : List (Nat × Instr × Nat)), decode cX8_init q.1 = .ok q.2 := by decide +kernel
theorem dt_X8_write : ∀ q ∈ ([(0, .iload_n 3, 1), (1, .iconst 1, 1), (2, .bipush 8, 2), (4, .invokestatic 86, 3), (7, .ifCond .ne 6, 3), (10, .bipush (-3), 2), (12, .ireturn, 1), (13, .aload_n 0, 1), (14, .getfield 23, 3), (17, .iload_n 3, 1), (18, .invokevirtual 90, 3), (21, .ifCond .ne 6, 3), (24, .bipush (-5), 2), (26, .ireturn, 1), (27, .aload_n 0, 1), (28, .getfield 23, 3), (31, .lload_n 1, 1), (32, .iload_n 3, 1), (33, .invokevirtual 94, 3), (36, .aload_n 0, 1), (37, .getfield 23, 3), (40, .getfield 98, 3), (43, .ireturn, 1)] : List (Nat × Instr × Nat)), decode cX8_write q.1 = .ok q.2 := by decide +kernel
theorem dt_X8_erase : ∀ q ∈ ([(0, .aload_n 0, 1), (1, .getfield 23, 3), (4, .getfield 98, 3), (7, .istore_n 1, 1), (8, .aload_n 0, 1), (9, .getfield 23, 3), (12, .iconst 0, 1), (13, .putfield 98, 3), (16, .iload_n 1, 1), (17, .ireturn, 1)] : List (Nat × Instr × Nat)), decode cX8_erase q.1 = .ok q.2 := by decide +kernel
theorem dt_X8_fault : ∀ q ∈ ([(0, .aload_n 0, 1), (1, .getfield 33, 3), (4, .aload_n 0, 1), (5, .getfield 29, 3), (8, .invokevirtual 101, 3), (11, .aload_n 0, 1), (12, .getfield 41, 3), (15, .invokevirtual 104, 3), (18, .ireturn, 1)] : List (Nat × Instr × Nat)), decode cX8_fault q.1 = .ok q.2 := by decide +kernel
theorem dt_X8_dike : ∀ q ∈ ([(0, .aload_n 0, 1), (1, .getfield 33, 3), (4, .aload_n 0, 1), (5, .getfield 29, 3), (8, .invokevirtual 101, 3), (11, .aload_n 0, 1), (12, .getfield 41, 3), (15, .invokevirtual 104, 3), (18, .iconst (-1), 1), (19, .if_icmp .eq 6, 3), (22, .bipush (-4), 2), (24, .ireturn, 1), (25, .aload_n 0, 1), (26, .getfield 29, 3), (29, .aload_n 0, 1), (30, .getfield 33, 3), (33, .invokevirtual 101, 3), (36, .aload_n 0, 1), (37, .getfield 23, 3), (40, .iconst 0, 1), (41, .putfield 98, 3), (44, .aload_n 0, 1), (45, .getfield 45, 3), (48, .invokevirtual 108, 3), (51, .aload_n 0, 1), (52, .iconst 0, 1), (53, .putfield 55, 3), (56, .aload_n 0, 1), (57, .getfield 82, 3), (60, .aload_n 0, 1), (61, .getfield 29, 3), (64, .getfield 111, 3), (67, .invokevirtual 114, 3), (70, .aload_n 0, 1), (71, .getfield 41, 3), (74, .getfield 117, 3), (77, .ireturn, 1)] : List (Nat × Instr × Nat)), decode cX8_dike q.1 = .ok q.2 := by decide +kernel
theorem dt_X8_tide : ∀ q ∈ ([(0, .iload_n 1, 1), (1, .iconst 0, 1), (2, .bipush 11, 2), (4, .invokestatic 86, 3), (7, .ifCond .eq 14, 3), (10, .aload_n 0, 1), (11, .getfield 29, 3), (14, .iload_n 1, 1), (15, .invokevirtual 120, 3), (18, .goto 5, 3), (21, .bipush (-3), 2), (23, .ireturn, 1)] : List (Nat × Instr × Nat)), decode cX8_tide q.1 = .ok q.2 := by decide +kernel
theorem dt_X8_seep : ∀ q ∈ ([(0, .aload_n 0, 1), (1, .getfield 29, 3), (4, .iload_n 1, 1), (5, .invokevirtual 124, 3), (8, .ifCond .ne 6, 3), (11, .bipush (-2), 2), (13, .ireturn, 1), (14, .iload_n 2, 1), (15, .tableswitch 90 0 4 #[33, 43, 53, 63, 73], 33), (48, .aload_n 0, 1), (49, .getfield 29, 3), (52, .getfield 127, 3), (55, .iload_n 1, 1), (56, .iaload, 1), (57, .ireturn, 1), (58, .aload_n 0, 1), (59, .getfield 45, 3), (62, .getfield 131, 3), (65, .iload_n 1, 1), (66, .iaload, 1), (67, .ireturn, 1), (68, .aload_n 0, 1), (69, .getfield 29, 3), (72, .getfield 134, 3), (75, .iload_n 1, 1), (76, .iaload, 1), (77, .ireturn, 1), (78, .aload_n 0, 1), (79, .getfield 29, 3), (82, .getfield 137, 3), (85, .iload_n 1, 1), (86, .iaload, 1), (87, .ireturn, 1), (88, .aload_n 0, 1), (89, .getfield 45, 3), (92, .iload_n 1, 1), (93, .invokevirtual 140, 3), (96, .ifCond .eq 7, 3), (99, .iconst 1, 1), (100, .goto 4, 3), (103, .iconst 0, 1), (104, .ireturn, 1), (105, .bipush (-3), 2), (107, .ireturn, 1)] : List (Nat × Instr × Nat)), decode cX8_seep q.1 = .ok q.2 := by decide +kernel
theorem dt_X8_child : ∀ q ∈ ([(0, .aload_n 0, 1), (1, .getfield 29, 3), (4, .iload_n 1, 1), (5, .invokevirtual 143, 3), (8, .ifCond .ne 6, 3), (11, .bipush (-2), 2), (13, .ireturn, 1), (14, .iload_n 2, 1), (15, .tableswitch 116 0 6 #[41, 51, 61, 71, 80, 97, 107], 41), (56, .aload_n 0, 1), (57, .getfield 29, 3), (60, .getfield 146, 3), (63, .iload_n 1, 1), (64, .iaload, 1), (65, .ireturn, 1), (66, .aload_n 0, 1), (67, .getfield 45, 3), (70, .getfield 149, 3), (73, .iload_n 1, 1), (74, .iaload, 1), (75, .ireturn, 1), (76, .aload_n 0, 1), (77, .getfield 29, 3), (80, .getfield 152, 3), (83, .iload_n 1, 1), (84, .iaload, 1), (85, .ireturn, 1), (86, .aload_n 0, 1), (87, .getfield 45, 3), (90, .iload_n 1, 1), (91, .invokevirtual 155, 3), (94, .ireturn, 1), (95, .aload_n 0, 1), (96, .getfield 45, 3), (99, .iload_n 1, 1), (100, .invokevirtual 158, 3), (103, .ifCond .eq 7, 3), (106, .iconst 1, 1), (107, .goto 4, 3), (110, .iconst 0, 1), (111, .ireturn, 1), (112, .aload_n 0, 1), (113, .getfield 45, 3), (116, .getfield 161, 3), (119, .iload_n 1, 1), (120, .iaload, 1), (121, .ireturn, 1), (122, .aload_n 0, 1), (123, .getfield 45, 3), (126, .iload_n 1, 1), (127, .invokevirtual 164, 3), (130, .ireturn, 1), (131, .bipush (-3), 2), (133, .ireturn, 1)] : List (Nat × Instr × Nat)), decode cX8_child q.1 = .ok q.2 := by decide +kernel
theorem dt_X8_as : ∀ q ∈ ([(0, .aload_n 0, 1), (1, .getfield 29, 3), (4, .iload_n 1, 1), (5, .invokevirtual 143, 3), (8, .ifCond .ne 6, 3), (11, .bipush (-2), 2), (13, .ireturn, 1), (14, .iload_n 2, 1), (15, .iconst 0, 1), (16, .iconst 4, 1), (17, .invokestatic 86, 3), (20, .ifCond .ne 6, 3), (23, .bipush (-3), 2), (25, .ireturn, 1), (26, .aload_n 0, 1), (27, .getfield 29, 3), (30, .getfield 146, 3), (33, .iload_n 1, 1), (34, .iaload, 1), (35, .iload_n 2, 1), (36, .invokestatic 167, 3), (39, .ifCond .eq 14, 3), (42, .aload_n 0, 1), (43, .getfield 45, 3), (46, .iload_n 1, 1), (47, .invokevirtual 171, 3), (50, .goto 5, 3), (53, .bipush (-4), 2), (55, .ireturn, 1)] : List (Nat × Instr × Nat)), decode cX8_as q.1 = .ok q.2 := by decide +kernel
theorem dt_X8_go : ∀ q ∈ ([(0, .iload_n 1, 1), (1, .iconst 1, 1), (2, .bipush 99, 2), (4, .invokestatic 86, 3), (7, .ifCond .ne 6, 3), (10, .bipush (-3), 2), (12, .ireturn, 1), (13, .iload_n 1, 1), (14, .sipush 9999, 3), (17, .aload_n 0, 1), (18, .getfield 45, 3), (21, .getfield 174, 3), (24, .isub, 1), (25, .if_icmp .le 6, 3), (28, .bipush (-5), 2), (30, .ireturn, 1), (31, .aload_n 0, 1), (32, .getfield 45, 3), (35, .iload_n 1, 1), (36, .invokevirtual 177, 3), (39, .aload_n 0, 1), (40, .getfield 45, 3), (43, .getfield 174, 3), (46, .ireturn, 1)] : List (Nat × Instr × Nat)), decode cX8_go q.1 = .ok q.2 := by decide +kernel
theorem dt_X8_fill : ∀ q ∈ ([(0, .aload_n 0, 1), (1, .getfield 29, 3), (4, .iload_n 1, 1), (5, .invokevirtual 180, 3), (8, .ifCond .eq 14, 3), (11, .aload_n 0, 1), (12, .getfield 45, 3), (15, .iload_n 1, 1), (16, .invokevirtual 183, 3), (19, .goto 5, 3), (22, .bipush (-2), 2), (24, .ireturn, 1)] : List (Nat × Instr × Nat)), decode cX8_fill q.1 = .ok q.2 := by decide +kernel
theorem dt_X8_keep : ∀ q ∈ ([(0, .iload_n 1, 1), (1, .iconst 0, 1), (2, .iconst 1, 1), (3, .invokestatic 86, 3), (6, .ifCond .ne 6, 3), (9, .bipush (-2), 2), (11, .ireturn, 1), (12, .aload_n 0, 1), (13, .iload_n 1, 1), (14, .invokevirtual 186, 3), (17, .aload_n 0, 1), (18, .getfield 45, 3), (21, .invokevirtual 190, 3), (24, .aload_n 0, 1), (25, .dup, 1), (26, .getfield 55, 3), (29, .iconst 1, 1), (30, .iload_n 1, 1), (31, .ishl, 1), (32, .ior, 1), (33, .putfield 55, 3), (36, .aload_n 0, 1), (37, .getfield 45, 3), (40, .getfield 174, 3), (43, .ireturn, 1)] : List (Nat × Instr × Nat)), decode cX8_keep q.1 = .ok q.2 := by decide +kernel
theorem dt_X8_back : ∀ q ∈ ([(0, .iload_n 1, 1), (1, .iconst 0, 1), (2, .iconst 1, 1), (3, .invokestatic 86, 3), (6, .ifCond .ne 6, 3), (9, .bipush (-2), 2), (11, .ireturn, 1), (12, .aload_n 0, 1), (13, .getfield 55, 3), (16, .iload_n 1, 1), (17, .invokestatic 193, 3), (20, .ifCond .ne 6, 3), (23, .bipush (-4), 2), (25, .ireturn, 1), (26, .aload_n 0, 1), (27, .getfield 45, 3), (30, .aload_n 0, 1), (31, .iload_n 1, 1), (32, .invokevirtual 186, 3), (35, .invokevirtual 190, 3), (38, .aload_n 0, 1), (39, .getfield 45, 3), (42, .getfield 174, 3), (45, .ireturn, 1)] : List (Nat × Instr × Nat)), decode cX8_back q.1 = .ok q.2 := by decide +kernel
theorem dt_X8_later : ∀ q ∈ ([(0, .iload_n 3, 1), (1, .iconst 0, 1), (2, .iconst 2, 1), (3, .invokestatic 86, 3), (6, .ifCond .ne 6, 3), (9, .bipush (-3), 2), (11, .ireturn, 1), (12, .iload_n 3, 1), (13, .ifCond .ne 14, 3), (16, .aload_n 0, 1), (17, .getfield 29, 3), (20, .iload_n 1, 1), (21, .invokevirtual 124, 3), (24, .goto 11, 3), (27, .aload_n 0, 1), (28, .getfield 29, 3), (31, .iload_n 1, 1), (32, .invokevirtual 143, 3), (35, .istore 4, 2), (37, .iload 4, 2), (39, .ifCond .ne 6, 3), (42, .bipush (-2), 2), (44, .ireturn, 1), (45, .iload_n 2, 1), (46, .iconst 0, 1), (47, .bipush 99, 2), (49, .invokestatic 86, 3), (52, .ifCond .ne 6, 3), (55, .bipush (-3), 2), (57, .ireturn, 1), (58, .aload_n 0, 1), (59, .getfield 59, 3), (62, .iload_n 2, 1), (63, .invokevirtual 196, 3), (66, .astore 5, 2), (68, .iload_n 3, 1), (69, .lookupswitch 43 #[(0, 27), (1, 35)], 27), (96, .aload 5, 2), (98, .getfield 131, 3), (101, .iload_n 1, 1), (102, .iaload, 1), (103, .ireturn, 1), (104, .aload 5, 2), (106, .getfield 149, 3), (109, .iload_n 1, 1), (110, .iaload, 1), (111, .ireturn, 1), (112, .aload 5, 2), (114, .iload_n 1, 1), (115, .invokevirtual 171, 3), (118, .ireturn, 1)] : List (Nat × Instr × Nat)), decode cX8_later q.1 = .ok q.2 := by decide +kernel
theorem dt_X8_breaks : ∀ q ∈ ([(0, .aload_n 0, 1), (1, .getfield 29, 3), (4, .iload_n 1, 1), (5, .invokevirtual 124, 3), (8, .ifCond .ne 6, 3), (11, .bipush (-2), 2), (13, .ireturn, 1), (14, .aload_n 0, 1), (15, .getfield 45, 3), (18, .iload_n 1, 1), (19, .invokevirtual 140, 3), (22, .ifCond .eq 8, 3), (25, .bipush (-4), 2), (27, .goto 11, 3), (30, .aload_n 0, 1), (31, .getfield 59, 3), (34, .iload_n 1, 1), (35, .invokevirtual 199, 3), (38, .ireturn, 1)] : List (Nat × Instr × Nat)), decode cX8_breaks q.1 = .ok q.2 := by decide +kernel
theorem dt_X8_missed : ∀ q ∈ ([(0, .aload_n 0, 1), (1, .getfield 29, 3), (4, .iload_n 1, 1), (5, .invokevirtual 202, 3), (8, .ifCond .eq 14, 3), (11, .aload_n 0, 1), (12, .getfield 59, 3), (15, .iload_n 1, 1), (16, .invokevirtual 205, 3), (19, .goto 5, 3), (22, .bipush (-2), 2), (24, .ireturn, 1)] : List (Nat × Instr × Nat)), decode cX8_missed q.1 = .ok q.2 := by decide +kernel
theorem dt_X8_watch : ∀ q ∈ ([(0, .iload_n 1, 1), (1, .iconst 0, 1), (2, .iconst 1, 1), (3, .invokestatic 86, 3), (6, .ifCond .ne 6, 3), (9, .bipush (-3), 2), (11, .ireturn, 1), (12, .aload_n 0, 1), (13, .getfield 59, 3), (16, .invokevirtual 208, 3), (19, .istore_n 2, 1), (20, .iload_n 2, 1), (21, .iconst (-1), 1), (22, .if_icmp .eq 8, 3), (25, .iload_n 1, 1), (26, .iconst 1, 1), (27, .if_icmp .ne 7, 3), (30, .iload_n 2, 1), (31, .goto 7, 3), (34, .iload_n 2, 1), (35, .invokestatic 211, 3), (38, .ireturn, 1)] : List (Nat × Instr × Nat)), decode cX8_watch q.1 = .ok q.2 := by decide +kernel
theorem dt_X8_order : ∀ q ∈ ([(0, .aload_n 0, 1), (1, .getfield 29, 3), (4, .iload_n 1, 1), (5, .invokevirtual 180, 3), (8, .ifCond .eq 14, 3), (11, .aload_n 0, 1), (12, .getfield 29, 3), (15, .iload_n 2, 1), (16, .invokevirtual 216, 3), (19, .ifCond .ne 6, 3), (22, .bipush (-2), 2), (24, .ireturn, 1), (25, .iload_n 3, 1), (26, .iconst (-1), 1), (27, .if_icmp .ge 6, 3), (30, .bipush (-3), 2), (32, .ireturn, 1), (33, .iload_n 2, 1), (34, .invokestatic 211, 3), (37, .iconst 5, 1), (38, .if_icmp .gt 15, 3), (41, .iload_n 2, 1), (42, .aload_n 0, 1), (43, .getfield 45, 3), (46, .getfield 219, 3), (49, .iand, 1), (50, .ifCond .eq 6, 3), (53, .bipush (-4), 2), (55, .ireturn, 1), (56, .aload_n 0, 1), (57, .getfield 68, 3), (60, .iload_n 1, 1), (61, .iload_n 2, 1), (62, .invokevirtual 222, 3), (65, .iload_n 3, 1), (66, .iconst (-1), 1), (67, .if_icmp .ne 13, 3), (70, .aload_n 0, 1), (71, .getfield 68, 3), (74, .getfield 226, 3), (77, .goto 11, 3), (80, .aload_n 0, 1), (81, .getfield 68, 3), (84, .iload_n 3, 1), (85, .invokevirtual 229, 3), (88, .ireturn, 1)] : List (Nat × Instr × Nat)), decode cX8_order q.1 = .ok q.2 := by decide +kernel
theorem dt_X8_storms : ∀ q ∈ ([(0, .aload_n 0, 1), (1, .getfield 29, 3), (4, .iload_n 1, 1), (5, .invokevirtual 124, 3), (8, .ifCond .ne 7, 3), (11, .ldc2_w 232, 3), (14, .lreturn, 1), (15, .iload_n 2, 1), (16, .iconst 0, 1), (17, .bipush 18, 2), (19, .invokestatic 86, 3), (22, .ifCond .eq 23, 3), (25, .iload_n 3, 1), (26, .iconst 0, 1), (27, .bipush 10, 2), (29, .invokestatic 86, 3), (32, .ifCond .eq 13, 3), (35, .iload 4, 2), (37, .iconst 0, 1), (38, .iconst 1, 1), (39, .invokestatic 86, 3), (42, .ifCond .ne 7, 3), (45, .ldc2_w 234, 3), (48, .lreturn, 1), (49, .aload_n 0, 1), (50, .getfield 45, 3), (53, .iload_n 1, 1), (54, .invokevirtual 140, 3), (57, .ifCond .eq 7, 3), (60, .ldc2_w 236, 3), (63, .lreturn, 1), (64, .aload_n 0, 1), (65, .getfield 75, 3), (68, .aload_n 0, 1), (69, .getfield 45, 3), (72, .getfield 131, 3), (75, .iload_n 1, 1), (76, .iaload, 1), (77, .aload_n 0, 1), (78, .getfield 29, 3), (81, .getfield 134, 3), (84, .iload_n 1, 1), (85, .iaload, 1), (86, .invokestatic 238, 3), (89, .iload_n 2, 1), (90, .iload_n 3, 1), (91, .invokevirtual 242, 3), (94, .iload 4, 2), (96, .ifCond .ne 13, 3), (99, .aload_n 0, 1), (100, .getfield 75, 3), (103, .getfield 246, 3), (106, .goto 10, 3), (109, .aload_n 0, 1), (110, .getfield 75, 3), (113, .getfield 250, 3), (116, .lreturn, 1)] : List (Nat × Instr × Nat)), decode cX8_storms q.1 = .ok q.2 := by decide +kernel
theorem dt_X8_guard : ∀ q ∈ ([(0, .iload_n 1, 1), (1, .iconst 0, 1), (2, .bipush 9, 2), (4, .invokestatic 86, 3), (7, .ifCond .eq 12, 3), (10, .iload_n 2, 1), (11, .iconst 0, 1), (12, .iconst 1, 1), (13, .invokestatic 86, 3), (16, .ifCond .ne 6, 3), (19, .bipush (-3), 2), (21, .ireturn, 1), (22, .iconst 0, 1), (23, .istore_n 3, 1), (24, .aload_n 0, 1), (25, .getfield 45, 3), (28, .iload_n 3, 1), (29, .iload_n 1, 1), (30, .invokevirtual 253, 3), (33, .istore 4, 2), (35, .iconst 1, 1), (36, .istore 5, 2), (38, .iload 5, 2), (40, .aload_n 0, 1), (41, .getfield 29, 3), (44, .getfield 111, 3), (47, .if_icmp .ge 41, 3), (50, .aload_n 0, 1), (51, .getfield 45, 3), (54, .iload 5, 2), (56, .iload_n 1, 1), (57, .invokevirtual 253, 3), (60, .istore 6, 2), (62, .iload 6, 2), (64, .invokestatic 211, 3), (67, .iload 4, 2), (69, .invokestatic 211, 3), (72, .if_icmp .le 10, 3), (75, .iload 5, 2), (77, .istore_n 3, 1), (78, .iload 6, 2), (80, .istore 4, 2), (82, .iinc 5 1, 3), (85, .goto (-47), 3), (88, .iload_n 2, 1), (89, .ifCond .ne 7, 3), (92, .iload_n 3, 1), (93, .goto 5, 3), (96, .iload 4, 2), (98, .ireturn, 1)] : List (Nat × Instr × Nat)), decode cX8_guard q.1 = .ok q.2 := by decide +kernel
theorem dt_X8_seen : ∀ q ∈ ([(0, .aload_n 0, 1), (1, .getfield 29, 3), (4, .iload_n 1, 1), (5, .invokevirtual 180, 3), (8, .ifCond .ne 6, 3), (11, .bipush (-2), 2), (13, .ireturn, 1), (14, .iload_n 2, 1), (15, .iconst 0, 1), (16, .bipush 9, 2), (18, .invokestatic 86, 3), (21, .ifCond .eq 12, 3), (24, .iload_n 3, 1), (25, .iconst 0, 1), (26, .iconst 1, 1), (27, .invokestatic 86, 3), (30, .ifCond .ne 6, 3), (33, .bipush (-3), 2), (35, .ireturn, 1), (36, .aload_n 0, 1), (37, .getfield 82, 3), (40, .iload_n 1, 1), (41, .iload_n 2, 1), (42, .invokevirtual 256, 3), (45, .istore 4, 2), (47, .aload_n 0, 1), (48, .getfield 82, 3), (51, .iload_n 3, 1), (52, .iconst 1, 1), (53, .if_icmp .ne 8, 3), (56, .iload 4, 2), (58, .goto 7, 3), (61, .iload 4, 2), (63, .iconst (-1), 1), (64, .ixor, 1), (65, .invokevirtual 259, 3), (68, .ireturn, 1)] : List (Nat × Instr × Nat)), decode cX8_seen q.1 = .ok q.2 := by decide +kernel
theorem dt_X8_paid : ∀ q ∈ ([(0, .aload_n 0, 1), (1, .getfield 29, 3), (4, .iload_n 1, 1), (5, .invokevirtual 180, 3), (8, .ifCond .ne 6, 3), (11, .bipush (-2), 2), (13, .ireturn, 1), (14, .iload_n 2, 1), (15, .iconst 0, 1), (16, .bipush 9, 2), (18, .invokestatic 86, 3), (21, .ifCond .ne 6, 3), (24, .bipush (-3), 2), (26, .ireturn, 1), (27, .aload_n 0, 1), (28, .getfield 82, 3), (31, .aload_n 0, 1), (32, .getfield 82, 3), (35, .iload_n 1, 1), (36, .iload_n 2, 1), (37, .invokevirtual 261, 3), (40, .invokevirtual 259, 3), (43, .ireturn, 1)] : List (Nat × Instr × Nat)), decode cX8_paid q.1 = .ok q.2 := by decide +kernel
theorem dt_X8_forget : ∀ q ∈ ([(0, .aload_n 0, 1), (1, .getfield 82, 3), (4, .getfield 264, 3), (7, .istore_n 1, 1), (8, .aload_n 0, 1), (9, .getfield 82, 3), (12, .aload_n 0, 1), (13, .getfield 29, 3), (16, .getfield 111, 3), (19, .invokevirtual 114, 3), (22, .iload_n 1, 1), (23, .ireturn, 1)] : List (Nat × Instr × Nat)), decode cX8_forget q.1 = .ok q.2 := by decide +kernel
theorem dt_X8_where : ∀ q ∈ ([(0, .aload_n 0, 1), (1, .getfield 82, 3), (4, .getfield 267, 3), (7, .ireturn, 1)] : List (Nat × Instr × Nat)), decode cX8_where q.1 = .ok q.2 := by decide +kernel
theorem dt_X8_next : ∀ q ∈ ([(0, .iload_n 1, 1), (1, .iconst 0, 1), (2, .bipush 9, 2), (4, .invokestatic 86, 3), (7, .ifCond .eq 14, 3), (10, .aload_n 0, 1), (11, .getfield 82, 3), (14, .iload_n 1, 1), (15, .invokevirtual 270, 3), (18, .goto 5, 3), (21, .bipush (-3), 2), (23, .ireturn, 1)] : List (Nat × Instr × Nat)), decode cX8_next q.1 = .ok q.2 := by decide +kernel
theorem dt_X8_count : ∀ q ∈ ([(0, .iload_n 1, 1), (1, .tableswitch 111 0 7 #[47, 55, 63, 71, 79, 87, 95, 103], 47), (48, .aload_n 0, 1), (49, .getfield 29, 3), (52, .getfield 111, 3), (55, .ireturn, 1), (56, .aload_n 0, 1), (57, .getfield 29, 3), (60, .getfield 273, 3), (63, .ireturn, 1), (64, .aload_n 0, 1), (65, .getfield 29, 3), (68, .getfield 276, 3), (71, .ireturn, 1), (72, .aload_n 0, 1), (73, .getfield 45, 3), (76, .getfield 174, 3), (79, .ireturn, 1), (80, .aload_n 0, 1), (81, .getfield 45, 3), (84, .getfield 219, 3), (87, .ireturn, 1), (88, .aload_n 0, 1), (89, .getfield 45, 3), (92, .invokevirtual 279, 3), (95, .ireturn, 1), (96, .aload_n 0, 1), (97, .getfield 82, 3), (100, .getfield 264, 3), (103, .ireturn, 1), (104, .aload_n 0, 1), (105, .getfield 23, 3), (108, .getfield 98, 3), (111, .ireturn, 1), (112, .bipush (-3), 2), (114, .ireturn, 1)] : List (Nat × Instr × Nat)), decode cX8_count q.1 = .ok q.2 := by decide +kernel
theorem dt_X8_keptNight : ∀ q ∈ ([(0, .iload_n 1, 1), (1, .ifCond .ne 10, 3), (4, .aload_n 0, 1), (5, .getfield 49, 3), (8, .goto 7, 3), (11, .aload_n 0, 1), (12, .getfield 52, 3), (15, .areturn, 1)] : List (Nat × Instr × Nat)), decode cX8_keptNight q.1 = .ok q.2 := by decide +kernel
theorem dt_X8_isWithin : ∀ q ∈ ([(0, .iload_n 0, 1), (1, .iload_n 1, 1), (2, .if_icmp .lt 12, 3), (5, .iload_n 0, 1), (6, .iload_n 2, 1), (7, .if_icmp .gt 7, 3), (10, .iconst 1, 1), (11, .goto 4, 3), (14, .iconst 0, 1), (15, .ireturn, 1)] : List (Nat × Instr × Nat)), decode cX8_isWithin q.1 = .ok q.2 := by decide +kernel
theorem dt_X8_hasBit : ∀ q ∈ ([(0, .iload_n 0, 1), (1, .iload_n 1, 1), (2, .ishr, 1), (3, .iconst 1, 1), (4, .iand, 1), (5, .iconst 1, 1), (6, .if_icmp .ne 7, 3), (9, .iconst 1, 1), (10, .goto 4, 3), (13, .iconst 0, 1), (14, .ireturn, 1)] : List (Nat × Instr × Nat)), decode cX8_hasBit q.1 = .ok q.2 := by decide +kernel
theorem dt_X8_isSetOf : ∀ q ∈ ([(0, .iload_n 1, 1), (1, .iload_n 0, 1), (2, .ishr, 1), (3, .ifCond .ne 7, 3), (6, .iconst 1, 1), (7, .goto 4, 3), (10, .iconst 0, 1), (11, .ireturn, 1)] : List (Nat × Instr × Nat)), decode cX8_isSetOf q.1 = .ok q.2 := by decide +kernel
theorem dt_X8_reaches : ∀ q ∈ ([(0, .iload_n 1, 1), (1, .iload_n 2, 1), (2, .isub, 1), (3, .invokestatic 282, 3), (6, .iload_n 0, 1), (7, .if_icmp .gt 7, 3), (10, .iconst 1, 1), (11, .goto 4, 3), (14, .iconst 0, 1), (15, .ireturn, 1)] : List (Nat × Instr × Nat)), decode cX8_reaches q.1 = .ok q.2 := by decide +kernel
theorem dt_X8_isOfKind : ∀ q ∈ ([(0, .iload_n 1, 1), (1, .ifCond .eq 20, 3), (4, .iload_n 1, 1), (5, .iload_n 0, 1), (6, .iconst 1, 1), (7, .iadd, 1), (8, .if_icmp .eq 13, 3), (11, .iload_n 1, 1), (12, .iconst 1, 1), (13, .if_icmp .ne 12, 3), (16, .iload_n 0, 1), (17, .iconst 1, 1), (18, .if_icmp .ne 7, 3), (21, .iconst 1, 1), (22, .goto 4, 3), (25, .iconst 0, 1), (26, .ireturn, 1)] : List (Nat × Instr × Nat)), decode cX8_isOfKind q.1 = .ok q.2 := by decide +kernel
theorem dt_X8_orangesFor : ∀ q ∈ ([(0, .iconst 0, 1), (1, .bipush 9, 2), (3, .iload_n 0, 1), (4, .iload_n 1, 1), (5, .isub, 1), (6, .invokestatic 282, 3), (9, .isub, 1), (10, .invokestatic 287, 3), (13, .ireturn, 1)] : List (Nat × Instr × Nat)), decode cX8_orangesFor q.1 = .ok q.2 := by decide +kernel
theorem dt_X8_growthsToBreak : ∀ q ∈ ([(0, .iload_n 0, 1), (1, .bipush 100, 2), (3, .if_icmp .lt 5, 3), (6, .iconst 0, 1), (7, .ireturn, 1), (8, .iload_n 1, 1), (9, .ifCond .le 16, 3), (12, .bipush 100, 2), (14, .iload_n 0, 1), (15, .isub, 1), (16, .iload_n 1, 1), (17, .iadd, 1), (18, .iconst 1, 1), (19, .isub, 1), (20, .iload_n 1, 1), (21, .idiv, 1), (22, .goto 4, 3), (25, .iconst (-1), 1), (26, .ireturn, 1)] : List (Nat × Instr × Nat)), decode cX8_growthsToBreak q.1 = .ok q.2 := by decide +kernel
end
section
theorem dt_X9_init : ∀ q ∈ ([(0, .aload_n 0, 1), (1, .invokespecial 1, 3), (4, .aload_n 0, 1), (5, .bipush 95, 2), (7, .newarray .int, 2), (9, .putfield 7, 3), (12, .aload_n 0, 1), (13, .iconst 2, 1), (14, .newarray .boolean, 2), (16, .putfield 13, 3), (19, .aload_n 0, 1), (20, .sipush 200, 3), (23, .newarray .int, 2), (25, .putfield 17, 3), (28, .aload_n 0, 1), (29, .bipush 60, 2), (31, .newarray .int, 2), (33, .putfield 20, 3), (36, .aload_n 0, 1), (37, .bipush 12, 2), (39, .putfield 23, 3), (42, .aload_n 0, 1), (43, .bipush 12, 2), (45, .newarray .int, 2), (47, .putfield 27, 3), (50, .aload_n 0, 1), (51, .bipush 18, 2), (53, .newarray .int, 2), (55, .putfield 30, 3), (58, .aload_n 0, 1), (59, .iconst 5, 1), (60, .newarray .int, 2), (62, .putfield 33, 3), (65, .aload_n 0, 1), (66, .iconst 5, 1), (67, .newarray .int, 2), (69, .putfield 36, 3), (72, .aload_n 0, 1), (73, .iconst 5, 1), (74, .newarray .int, 2), (76, .putfield 39, 3), (79, .aload_n 0, 1), (80, .bipush 6, 2), (82, .newarray .int, 2), (84, .putfield 42, 3), (87, .aload_n 0, 1), (88, .iconst 5, 1), (89, .newarray .int, 2), (91, .putfield 45, 3), (94, .aload_n 0, 1), (95, .bipush 6, 2), (97, .newarray .int, 2), (99, .putfield 48, 3), (102, .aload_n 0, 1), (103, .bipush 27, 2), (105, .newarray .int, 2), (107, .putfield 51, 3), (110, .return_, 1)] : List (Nat × Instr × Nat)), decode cX9_init q.1 = .ok q.2 := by decide +kernel
theorem dt_X9_in : ∀ q ∈ ([(0, .lload_n 0, 1), (1, .lload_n 2, 1), (2, .lcmp, 1), (3, .ifCond .lt 14, 3), (6, .lload_n 0, 1), (7, .lload 4, 2), (9, .lcmp, 1), (10, .ifCond .gt 7, 3), (13, .iconst 1, 1), (14, .goto 4, 3), (17, .iconst 0, 1), (18, .ireturn, 1)] : List (Nat × Instr × Nat)), decode cX9_in q.1 = .ok q.2 := by decide +kernel
theorem dt_X9_has : ∀ q ∈ ([(0, .iload_n 0, 1), (1, .iload_n 1, 1), (2, .ishr, 1), (3, .iconst 1, 1), (4, .iand, 1), (5, .iconst 1, 1), (6, .if_icmp .ne 7, 3), (9, .iconst 1, 1), (10, .goto 4, 3), (13, .iconst 0, 1), (14, .ireturn, 1)] : List (Nat × Instr × Nat)), decode cX9_has q.1 = .ok q.2 := by decide +kernel
theorem dt_X9_bits : ∀ q ∈ ([(0, .iconst 0, 1), (1, .istore_n 1, 1), (2, .iconst 0, 1), (3, .istore_n 2, 1), (4, .iload_n 2, 1), (5, .bipush 24, 2), (7, .if_icmp .ge 17, 3), (10, .iload_n 1, 1), (11, .iload_n 0, 1), (12, .iload_n 2, 1), (13, .ishr, 1), (14, .iconst 1, 1), (15, .iand, 1), (16, .iadd, 1), (17, .istore_n 1, 1), (18, .iinc 2 1, 3), (21, .goto (-17), 3), (24, .iload_n 1, 1), (25, .ireturn, 1)] : List (Nat × Instr × Nat)), decode cX9_bits q.1 = .ok q.2 := by decide +kernel
theorem dt_X9_far : ∀ q ∈ ([(0, .iload_n 0, 1), (1, .iload_n 1, 1), (2, .if_icmp .ge 9, 3), (5, .iload_n 1, 1), (6, .iload_n 0, 1), (7, .isub, 1), (8, .goto 6, 3), (11, .iload_n 0, 1), (12, .iload_n 1, 1), (13, .isub, 1), (14, .ireturn, 1)] : List (Nat × Instr × Nat)), decode cX9_far q.1 = .ok q.2 := by decide +kernel
theorem dt_X9_copy : ∀ q ∈ ([(0, .iconst 0, 1), (1, .istore_n 3, 1), (2, .iload_n 3, 1), (3, .bipush 19, 2), (5, .if_icmp .ge 25, 3), (8, .aload_n 0, 1), (9, .getfield 7, 3), (12, .iload_n 2, 1), (13, .iload_n 3, 1), (14, .iadd, 1), (15, .aload_n 0, 1), (16, .getfield 7, 3), (19, .iload_n 1, 1), (20, .iload_n 3, 1), (21, .iadd, 1), (22, .iaload, 1), (23, .iastore, 1), (24, .iinc 3 1, 3), (27, .goto (-25), 3), (30, .return_, 1)] : List (Nat × Instr × Nat)), decode cX9_copy q.1 = .ok q.2 := by decide +kernel
theorem dt_X9_write : ∀ q ∈ ([(0, .iload_n 3, 1), (1, .i2l, 1), (2, .lconst 1, 1), (3, .ldc2_w 54, 3), (6, .invokestatic 56, 3), (9, .ifCond .ne 6, 3), (12, .bipush (-3), 2), (14, .ireturn, 1), (15, .aload_n 0, 1), (16, .getfield 60, 3), (19, .iload_n 3, 1), (20, .iadd, 1), (21, .sipush 200, 3), (24, .if_icmp .le 6, 3), (27, .bipush (-5), 2), (29, .ireturn, 1), (30, .iconst 0, 1), (31, .istore 4, 2), (33, .iload 4, 2), (35, .iload_n 3, 1), (36, .if_icmp .ge 40, 3), (39, .aload_n 0, 1), (40, .getfield 17, 3), (43, .aload_n 0, 1), (44, .getfield 60, 3), (47, .lload_n 1, 1), (48, .bipush 8, 2), (50, .iload 4, 2), (52, .imul, 1), (53, .lshr, 1), (54, .ldc2_w 63, 3), (57, .land, 1), (58, .l2i, 1), (59, .iastore, 1), (60, .aload_n 0, 1), (61, .dup, 1), (62, .getfield 60, 3), (65, .iconst 1, 1), (66, .iadd, 1), (67, .putfield 60, 3), (70, .iinc 4 1, 3), (73, .goto (-40), 3), (76, .aload_n 0, 1), (77, .getfield 60, 3), (80, .ireturn, 1)] : List (Nat × Instr × Nat)), decode cX9_write q.1 = .ok q.2 := by decide +kernel
theorem dt_X9_erase : ∀ q ∈ ([(0, .aload_n 0, 1), (1, .getfield 60, 3), (4, .istore_n 1, 1), (5, .aload_n 0, 1), (6, .iconst 0, 1), (7, .putfield 60, 3), (10, .iload_n 1, 1), (11, .ireturn, 1)] : List (Nat × Instr × Nat)), decode cX9_erase q.1 = .ok q.2 := by decide +kernel
theorem dt_X9_sort : ∀ q ∈ ([(0, .iload_n 0, 1), (1, .bipush 97, 2), (3, .if_icmp .lt 13, 3), (6, .iload_n 0, 1), (7, .bipush 122, 2), (9, .if_icmp .gt 7, 3), (12, .iconst 1, 1), (13, .goto 20, 3), (16, .iload_n 0, 1), (17, .bipush 48, 2), (19, .if_icmp .lt 13, 3), (22, .iload_n 0, 1), (23, .bipush 57, 2), (25, .if_icmp .gt 7, 3), (28, .iconst 2, 1), (29, .goto 4, 3), (32, .iconst 0, 1), (33, .ireturn, 1)] : List (Nat × Instr × Nat)), decode cX9_sort q.1 = .ok q.2 := by decide +kernel
theorem dt_X9_token : ∀ q ∈ ([(0, .aload_n 0, 1), (1, .getfield 65, 3), (4, .aload_n 0, 1), (5, .getfield 60, 3), (8, .if_icmp .ge 30, 3), (11, .aload_n 0, 1), (12, .getfield 17, 3), (15, .aload_n 0, 1), (16, .getfield 65, 3), (19, .iaload, 1), (20, .bipush 32, 2), (22, .if_icmp .ne 16, 3), (25, .aload_n 0, 1), (26, .dup, 1), (27, .getfield 65, 3), (30, .iconst 1, 1), (31, .iadd, 1), (32, .putfield 65, 3), (35, .goto (-35), 3), (38, .aload_n 0, 1), (39, .aload_n 0, 1), (40, .getfield 65, 3), (43, .putfield 68, 3), (46, .aload_n 0, 1), (47, .dup, 1), (48, .getfield 65, 3), (51, .aload_n 0, 1), (52, .getfield 65, 3), (55, .aload_n 0, 1), (56, .getfield 60, 3), (59, .if_icmp .ge 7, 3), (62, .iconst 1, 1), (63, .goto 4, 3), (66, .iconst 0, 1), (67, .iadd, 1), (68, .putfield 65, 3), (71, .aload_n 0, 1), (72, .getfield 65, 3), (75, .aload_n 0, 1), (76, .getfield 60, 3), (79, .if_icmp .ge 58, 3), (82, .aload_n 0, 1), (83, .getfield 17, 3), (86, .aload_n 0, 1), (87, .getfield 68, 3), (90, .iaload, 1), (91, .invokestatic 71, 3), (94, .ifCond .le 43, 3), (97, .aload_n 0, 1), (98, .getfield 17, 3), (101, .aload_n 0, 1), (102, .getfield 65, 3), (105, .iaload, 1), (106, .invokestatic 71, 3), (109, .aload_n 0, 1), (110, .getfield 17, 3), (113, .aload_n 0, 1), (114, .getfield 68, 3), (117, .iaload, 1), (118, .invokestatic 71, 3), (121, .if_icmp .ne 16, 3), (124, .aload_n 0, 1), (125, .dup, 1), (126, .getfield 65, 3), (129, .iconst 1, 1), (130, .iadd, 1), (131, .putfield 65, 3), (134, .goto (-63), 3), (137, .aload_n 0, 1), (138, .aload_n 0, 1), (139, .getfield 65, 3), (142, .putfield 75, 3), (145, .return_, 1)] : List (Nat × Instr × Nat)), decode cX9_token q.1 = .ok q.2 := by decide +kernel
theorem dt_X9_isWord : ∀ q ∈ ([(0, .aload_n 0, 1), (1, .getfield 75, 3), (4, .aload_n 0, 1), (5, .getfield 68, 3), (8, .isub, 1), (9, .iload_n 2, 1), (10, .if_icmp .ne 7, 3), (13, .iconst 1, 1), (14, .goto 4, 3), (17, .iconst 0, 1), (18, .istore_n 3, 1), (19, .iconst 0, 1), (20, .istore 4, 2), (22, .iload_n 3, 1), (23, .ifCond .eq 48, 3), (26, .iload 4, 2), (28, .iload_n 2, 1), (29, .if_icmp .ge 42, 3), (32, .aload_n 0, 1), (33, .getfield 17, 3), (36, .aload_n 0, 1), (37, .getfield 68, 3), (40, .iload 4, 2), (42, .iadd, 1), (43, .iaload, 1), (44, .bipush 96, 2), (46, .iload_n 1, 1), (47, .iconst 5, 1), (48, .iload 4, 2), (50, .imul, 1), (51, .ishr, 1), (52, .bipush 31, 2), (54, .iand, 1), (55, .iadd, 1), (56, .if_icmp .ne 7, 3), (59, .iconst 1, 1), (60, .goto 4, 3), (63, .iconst 0, 1), (64, .istore_n 3, 1), (65, .iinc 4 1, 3), (68, .goto (-46), 3), (71, .iload_n 3, 1), (72, .ireturn, 1)] : List (Nat × Instr × Nat)), decode cX9_isWord q.1 = .ok q.2 := by decide +kernel
theorem dt_X9_childWord : ∀ q ∈ ([(0, .aload_n 0, 1), (1, .ldc 78, 2), (3, .iconst 5, 1), (4, .invokevirtual 79, 3), (7, .ifCond .eq 7, 3), (10, .iconst 3, 1), (11, .goto 47, 3), (14, .aload_n 0, 1), (15, .ldc 83, 2), (17, .iconst 5, 1), (18, .invokevirtual 79, 3), (21, .ifCond .eq 7, 3), (24, .iconst 4, 1), (25, .goto 33, 3), (28, .aload_n 0, 1), (29, .ldc 84, 2), (31, .iconst 4, 1), (32, .invokevirtual 79, 3), (35, .ifCond .eq 7, 3), (38, .iconst 5, 1), (39, .goto 19, 3), (42, .aload_n 0, 1), (43, .ldc 85, 2), (45, .iconst 4, 1), (46, .invokevirtual 79, 3), (49, .ifCond .eq 8, 3), (52, .bipush 6, 2), (54, .goto 4, 3), (57, .iconst (-1), 1), (58, .ireturn, 1)] : List (Nat × Instr × Nat)), decode cX9_childWord q.1 = .ok q.2 := by decide +kernel
theorem dt_X9_wordOf : ∀ q ∈ ([(0, .aload_n 0, 1), (1, .invokevirtual 86, 3), (4, .istore_n 1, 1), (5, .iload_n 1, 1), (6, .iconst (-1), 1), (7, .if_icmp .eq 7, 3), (10, .iload_n 1, 1), (11, .goto 78, 3), (14, .aload_n 0, 1), (15, .ldc 90, 2), (17, .iconst 4, 1), (18, .invokevirtual 79, 3), (21, .ifCond .eq 7, 3), (24, .iconst 0, 1), (25, .goto 64, 3), (28, .aload_n 0, 1), (29, .ldc 91, 2), (31, .iconst 4, 1), (32, .invokevirtual 79, 3), (35, .ifCond .eq 7, 3), (38, .iconst 1, 1), (39, .goto 50, 3), (42, .aload_n 0, 1), (43, .ldc 92, 2), (45, .iconst 4, 1), (46, .invokevirtual 79, 3), (49, .ifCond .eq 7, 3), (52, .iconst 2, 1), (53, .goto 36, 3), (56, .aload_n 0, 1), (57, .sipush 26180, 3), (60, .iconst 3, 1), (61, .invokevirtual 79, 3), (64, .ifCond .eq 8, 3), (67, .bipush 7, 2), (69, .goto 20, 3), (72, .aload_n 0, 1), (73, .ldc 93, 2), (75, .bipush 6, 2), (77, .invokevirtual 79, 3), (80, .ifCond .eq 8, 3), (83, .bipush 8, 2), (85, .goto 4, 3), (88, .iconst (-1), 1), (89, .ireturn, 1)] : List (Nat × Instr × Nat)), decode cX9_wordOf q.1 = .ok q.2 := by decide +kernel
theorem dt_X9_reads : ∀ q ∈ ([(0, .aload_n 0, 1), (1, .getfield 68, 3), (4, .aload_n 0, 1), (5, .getfield 60, 3), (8, .if_icmp .eq 32, 3), (11, .aload_n 0, 1), (12, .getfield 17, 3), (15, .aload_n 0, 1), (16, .getfield 68, 3), (19, .iaload, 1), (20, .invokestatic 71, 3), (23, .iconst 2, 1), (24, .if_icmp .ne 16, 3), (27, .aload_n 0, 1), (28, .getfield 75, 3), (31, .aload_n 0, 1), (32, .getfield 68, 3), (35, .isub, 1), (36, .iconst 2, 1), (37, .if_icmp .le 5, 3), (40, .iconst 0, 1), (41, .ireturn, 1), (42, .iconst 0, 1), (43, .istore 4, 2), (45, .aload_n 0, 1), (46, .getfield 68, 3), (49, .istore 5, 2), (51, .iload 5, 2), (53, .aload_n 0, 1), (54, .getfield 75, 3), (57, .if_icmp .ge 27, 3), (60, .bipush 10, 2), (62, .iload 4, 2), (64, .imul, 1), (65, .aload_n 0, 1), (66, .getfield 17, 3), (69, .iload 5, 2), (71, .iaload, 1), (72, .iadd, 1), (73, .bipush 48, 2), (75, .isub, 1), (76, .istore 4, 2), (78, .iinc 5 1, 3), (81, .goto (-30), 3), (84, .iload 4, 2), (86, .i2l, 1), (87, .iload_n 2, 1), (88, .i2l, 1), (89, .iload_n 3, 1), (90, .i2l, 1), (91, .invokestatic 56, 3), (94, .ifCond .ne 5, 3), (97, .iconst 0, 1), (98, .ireturn, 1), (99, .aload_n 0, 1), (100, .getfield 20, 3), (103, .iconst 5, 1), (104, .aload_n 0, 1), (105, .getfield 94, 3), (108, .imul, 1), (109, .iconst 1, 1), (110, .iadd, 1), (111, .iload_n 1, 1), (112, .iadd, 1), (113, .iload 4, 2), (115, .iastore, 1), (116, .aload_n 0, 1), (117, .invokevirtual 97, 3), (120, .iconst 1, 1), (121, .ireturn, 1)] : List (Nat × Instr × Nat)), decode cX9_reads q.1 = .ok q.2 := by decide +kernel
theorem dt_X9_readsRest : ∀ q ∈ ([(0, .aload_n 0, 1), (1, .getfield 100, 3), (4, .iconst 1, 1), (5, .isub, 1), (6, .istore_n 2, 1), (7, .iload_n 1, 1), (8, .tableswitch 140 0 8 #[52, 61, 89, 140, 140, 140, 140, 138, 138], 52), (60, .aload_n 0, 1), (61, .iconst 0, 1), (62, .iconst 4, 1), (63, .bipush 24, 2), (65, .invokevirtual 103, 3), (68, .ireturn, 1), (69, .aload_n 0, 1), (70, .iconst 0, 1), (71, .iconst 0, 1), (72, .bipush 11, 2), (74, .invokevirtual 103, 3), (77, .ifCond .eq 18, 3), (80, .aload_n 0, 1), (81, .iconst 1, 1), (82, .iconst 0, 1), (83, .bipush 9, 2), (85, .invokevirtual 103, 3), (88, .ifCond .eq 7, 3), (91, .iconst 1, 1), (92, .goto 4, 3), (95, .iconst 0, 1), (96, .ireturn, 1), (97, .aload_n 0, 1), (98, .iconst 0, 1), (99, .iconst 0, 1), (100, .iload_n 2, 1), (101, .invokevirtual 103, 3), (104, .ifCond .eq 40, 3), (107, .aload_n 0, 1), (108, .iconst 1, 1), (109, .iconst 1, 1), (110, .bipush 99, 2), (112, .invokevirtual 103, 3), (115, .ifCond .eq 29, 3), (118, .aload_n 0, 1), (119, .iconst 2, 1), (120, .iconst 0, 1), (121, .bipush 9, 2), (123, .invokevirtual 103, 3), (126, .ifCond .eq 18, 3), (129, .aload_n 0, 1), (130, .iconst 3, 1), (131, .iconst 0, 1), (132, .bipush 9, 2), (134, .invokevirtual 103, 3), (137, .ifCond .eq 7, 3), (140, .iconst 1, 1), (141, .goto 4, 3), (144, .iconst 0, 1), (145, .ireturn, 1), (146, .iconst 1, 1), (147, .ireturn, 1), (148, .aload_n 0, 1), (149, .iconst 0, 1), (150, .iconst 0, 1), (151, .iload_n 2, 1), (152, .invokevirtual 103, 3), (155, .ifCond .eq 28, 3), (158, .aload_n 0, 1), (159, .iconst 1, 1), (160, .iconst 0, 1), (161, .iconst 3, 1), (162, .invokevirtual 103, 3), (165, .ifCond .eq 18, 3), (168, .aload_n 0, 1), (169, .iconst 2, 1), (170, .iconst 0, 1), (171, .bipush 9, 2), (173, .invokevirtual 103, 3), (176, .ifCond .eq 7, 3), (179, .iconst 1, 1), (180, .goto 4, 3), (183, .iconst 0, 1), (184, .ireturn, 1)] : List (Nat × Instr × Nat)), decode cX9_readsRest q.1 = .ok q.2 := by decide +kernel
theorem dt_X9_isChildWord : ∀ q ∈ ([(0, .iload_n 0, 1), (1, .i2l, 1), (2, .ldc2_w 107, 3), (5, .ldc2_w 109, 3), (8, .invokestatic 56, 3), (11, .ireturn, 1)] : List (Nat × Instr × Nat)), decode cX9_isChildWord q.1 = .ok q.2 := by decide +kernel
theorem dt_X9_readsLine : ∀ q ∈ ([(0, .aload_n 0, 1), (1, .invokevirtual 111, 3), (4, .istore_n 1, 1), (5, .iload_n 1, 1), (6, .iconst (-1), 1), (7, .if_icmp .eq 32, 3), (10, .iload_n 1, 1), (11, .iconst 2, 1), (12, .if_icmp .ne 12, 3), (15, .aload_n 0, 1), (16, .getfield 114, 3), (19, .bipush 6, 2), (21, .if_icmp .eq 18, 3), (24, .iload_n 1, 1), (25, .invokestatic 117, 3), (28, .ifCond .eq 13, 3), (31, .aload_n 0, 1), (32, .getfield 121, 3), (35, .iconst 5, 1), (36, .if_icmp .ne 5, 3), (39, .iconst 0, 1), (40, .ireturn, 1), (41, .aload_n 0, 1), (42, .invokevirtual 97, 3), (45, .aload_n 0, 1), (46, .getfield 20, 3), (49, .iconst 5, 1), (50, .aload_n 0, 1), (51, .getfield 94, 3), (54, .imul, 1), (55, .iload_n 1, 1), (56, .iastore, 1), (57, .aload_n 0, 1), (58, .iload_n 1, 1), (59, .invokevirtual 124, 3), (62, .ifCond .ne 5, 3), (65, .iconst 0, 1), (66, .ireturn, 1), (67, .aload_n 0, 1), (68, .iload_n 1, 1), (69, .ifCond .ne 19, 3), (72, .aload_n 0, 1), (73, .getfield 20, 3), (76, .iconst 5, 1), (77, .aload_n 0, 1), (78, .getfield 94, 3), (81, .imul, 1), (82, .iconst 1, 1), (83, .iadd, 1), (84, .iaload, 1), (85, .goto 7, 3), (88, .aload_n 0, 1), (89, .getfield 100, 3), (92, .putfield 100, 3), (95, .aload_n 0, 1), (96, .iload_n 1, 1), (97, .ifCond .eq 9, 3), (100, .iload_n 1, 1), (101, .bipush 7, 2), (103, .if_icmp .ne 7, 3), (106, .iconst 0, 1), (107, .goto 21, 3), (110, .iload_n 1, 1), (111, .iconst 2, 1), (112, .if_icmp .ne 12, 3), (115, .aload_n 0, 1), (116, .getfield 114, 3), (119, .iconst 1, 1), (120, .iadd, 1), (121, .goto 7, 3), (124, .aload_n 0, 1), (125, .getfield 114, 3), (128, .putfield 114, 3), (131, .aload_n 0, 1), (132, .iload_n 1, 1), (133, .ifCond .eq 9, 3), (136, .iload_n 1, 1), (137, .bipush 8, 2), (139, .if_icmp .ne 7, 3), (142, .iconst 0, 1), (143, .goto 23, 3), (146, .iload_n 1, 1), (147, .invokestatic 117, 3), (150, .ifCond .eq 12, 3), (153, .aload_n 0, 1), (154, .getfield 121, 3), (157, .iconst 1, 1), (158, .iadd, 1), (159, .goto 7, 3), (162, .aload_n 0, 1), (163, .getfield 121, 3), (166, .putfield 121, 3), (169, .aload_n 0, 1), (170, .dup, 1), (171, .getfield 94, 3), (174, .iconst 1, 1), (175, .iadd, 1), (176, .putfield 94, 3), (179, .iconst 1, 1), (180, .ireturn, 1)] : List (Nat × Instr × Nat)), decode cX9_readsLine q.1 = .ok q.2 := by decide +kernel
theorem dt_X9_fault : ∀ q ∈ ([(0, .aload_n 0, 1), (1, .iconst 0, 1), (2, .putfield 65, 3), (5, .aload_n 0, 1), (6, .iconst 0, 1), (7, .putfield 94, 3), (10, .aload_n 0, 1), (11, .aload_n 0, 1), (12, .getfield 23, 3), (15, .putfield 100, 3), (18, .aload_n 0, 1), (19, .aload_n 0, 1), (20, .getfield 127, 3), (23, .putfield 114, 3), (26, .aload_n 0, 1), (27, .aload_n 0, 1), (28, .getfield 130, 3), (31, .putfield 121, 3), (34, .aload_n 0, 1), (35, .invokevirtual 97, 3), (38, .aload_n 0, 1), (39, .invokevirtual 133, 3), (42, .ifCond .ne 8, 3), (45, .aload_n 0, 1), (46, .getfield 68, 3), (49, .ireturn, 1), (50, .aload_n 0, 1), (51, .getfield 68, 3), (54, .aload_n 0, 1), (55, .getfield 60, 3), (58, .if_icmp .ge 70, 3), (61, .aload_n 0, 1), (62, .getfield 75, 3), (65, .aload_n 0, 1), (66, .getfield 68, 3), (69, .isub, 1), (70, .iconst 1, 1), (71, .if_icmp .ne 30, 3), (74, .aload_n 0, 1), (75, .getfield 17, 3), (78, .aload_n 0, 1), (79, .getfield 68, 3), (82, .iaload, 1), (83, .bipush 59, 2), (85, .if_icmp .ne 16, 3), (88, .aload_n 0, 1), (89, .getfield 94, 3), (92, .bipush 12, 2), (94, .if_icmp .ge 7, 3), (97, .iconst 1, 1), (98, .goto 4, 3), (101, .iconst 0, 1), (102, .istore_n 1, 1), (103, .iload_n 1, 1), (104, .ifCond .eq 12, 3), (107, .aload_n 0, 1), (108, .invokevirtual 97, 3), (111, .aload_n 0, 1), (112, .invokevirtual 133, 3), (115, .istore_n 1, 1), (116, .iload_n 1, 1), (117, .ifCond .ne 8, 3), (120, .aload_n 0, 1), (121, .getfield 68, 3), (124, .ireturn, 1), (125, .goto (-75), 3), (128, .iconst (-1), 1), (129, .ireturn, 1)] : List (Nat × Instr × Nat)), decode cX9_fault q.1 = .ok q.2 := by decide +kernel
theorem dt_X9_clear : ∀ q ∈ ([(0, .aload_n 0, 1), (1, .iload_n 1, 1), (2, .putfield 23, 3), (5, .aload_n 0, 1), (6, .iconst 0, 1), (7, .putfield 127, 3), (10, .aload_n 0, 1), (11, .iconst 0, 1), (12, .putfield 130, 3), (15, .iconst 0, 1), (16, .istore_n 2, 1), (17, .iload_n 2, 1), (18, .bipush 12, 2), (20, .if_icmp .ge 16, 3), (23, .aload_n 0, 1), (24, .getfield 27, 3), (27, .iload_n 2, 1), (28, .iconst 0, 1), (29, .iastore, 1), (30, .iinc 2 1, 3), (33, .goto (-16), 3), (36, .return_, 1)] : List (Nat × Instr × Nat)), decode cX9_clear q.1 = .ok q.2 := by decide +kernel
theorem dt_X9_tell : ∀ q ∈ ([(0, .aload_n 0, 1), (1, .getfield 20, 3), (4, .iload_n 1, 1), (5, .iconst 1, 1), (6, .iadd, 1), (7, .iaload, 1), (8, .istore_n 2, 1), (9, .aload_n 0, 1), (10, .getfield 20, 3), (13, .iload_n 1, 1), (14, .iaload, 1), (15, .tableswitch 167 0 8 #[49, 55, 70, 167, 167, 167, 167, 155, 161], 49), (64, .aload_n 0, 1), (65, .iload_n 2, 1), (66, .invokevirtual 137, 3), (69, .return_, 1), (70, .aload_n 0, 1), (71, .getfield 27, 3), (74, .iload_n 2, 1), (75, .aload_n 0, 1), (76, .getfield 20, 3), (79, .iload_n 1, 1), (80, .iconst 2, 1), (81, .iadd, 1), (82, .iaload, 1), (83, .iastore, 1), (84, .return_, 1), (85, .aload_n 0, 1), (86, .getfield 30, 3), (89, .iconst 3, 1), (90, .aload_n 0, 1), (91, .getfield 127, 3), (94, .imul, 1), (95, .iload_n 2, 1), (96, .iastore, 1), (97, .aload_n 0, 1), (98, .getfield 7, 3), (101, .bipush 76, 2), (103, .aload_n 0, 1), (104, .getfield 127, 3), (107, .iadd, 1), (108, .aload_n 0, 1), (109, .getfield 20, 3), (112, .iload_n 1, 1), (113, .iconst 2, 1), (114, .iadd, 1), (115, .iaload, 1), (116, .iastore, 1), (117, .aload_n 0, 1), (118, .getfield 30, 3), (121, .iconst 3, 1), (122, .aload_n 0, 1), (123, .getfield 127, 3), (126, .imul, 1), (127, .iconst 1, 1), (128, .iadd, 1), (129, .aload_n 0, 1), (130, .getfield 20, 3), (133, .iload_n 1, 1), (134, .iconst 3, 1), (135, .iadd, 1), (136, .iaload, 1), (137, .iastore, 1), (138, .aload_n 0, 1), (139, .getfield 30, 3), (142, .iconst 3, 1), (143, .aload_n 0, 1), (144, .getfield 127, 3), (147, .imul, 1), (148, .iconst 2, 1), (149, .iadd, 1), (150, .aload_n 0, 1), (151, .getfield 20, 3), (154, .iload_n 1, 1), (155, .iconst 4, 1), (156, .iadd, 1), (157, .iaload, 1), (158, .iastore, 1), (159, .aload_n 0, 1), (160, .dup, 1), (161, .getfield 127, 3), (164, .iconst 1, 1), (165, .iadd, 1), (166, .putfield 127, 3), (169, .return_, 1), (170, .aload_n 0, 1), (171, .iconst 0, 1), (172, .putfield 127, 3), (175, .return_, 1), (176, .aload_n 0, 1), (177, .iconst 0, 1), (178, .putfield 130, 3), (181, .return_, 1), (182, .aload_n 0, 1), (183, .getfield 33, 3), (186, .aload_n 0, 1), (187, .getfield 130, 3), (190, .aload_n 0, 1), (191, .getfield 20, 3), (194, .iload_n 1, 1), (195, .iaload, 1), (196, .iconst 3, 1), (197, .isub, 1), (198, .iastore, 1), (199, .aload_n 0, 1), (200, .getfield 7, 3), (203, .bipush 83, 2), (205, .aload_n 0, 1), (206, .getfield 130, 3), (209, .iadd, 1), (210, .iload_n 2, 1), (211, .iastore, 1), (212, .aload_n 0, 1), (213, .getfield 36, 3), (216, .aload_n 0, 1), (217, .getfield 130, 3), (220, .aload_n 0, 1), (221, .getfield 20, 3), (224, .iload_n 1, 1), (225, .iconst 2, 1), (226, .iadd, 1), (227, .iaload, 1), (228, .iastore, 1), (229, .aload_n 0, 1), (230, .getfield 39, 3), (233, .aload_n 0, 1), (234, .getfield 130, 3), (237, .aload_n 0, 1), (238, .getfield 20, 3), (241, .iload_n 1, 1), (242, .iconst 3, 1), (243, .iadd, 1), (244, .iaload, 1), (245, .iastore, 1), (246, .aload_n 0, 1), (247, .dup, 1), (248, .getfield 130, 3), (251, .iconst 1, 1), (252, .iadd, 1), (253, .putfield 130, 3), (256, .return_, 1)] : List (Nat × Instr × Nat)), decode cX9_tell q.1 = .ok q.2 := by decide +kernel
theorem dt_X9_dike : ∀ q ∈ ([(0, .aload_n 0, 1), (1, .invokevirtual 141, 3), (4, .iconst (-1), 1), (5, .if_icmp .eq 6, 3), (8, .bipush (-4), 2), (10, .ireturn, 1), (11, .iconst 0, 1), (12, .istore_n 1, 1), (13, .iload_n 1, 1), (14, .aload_n 0, 1), (15, .getfield 94, 3), (18, .if_icmp .ge 16, 3), (21, .aload_n 0, 1), (22, .iconst 5, 1), (23, .iload_n 1, 1), (24, .imul, 1), (25, .invokevirtual 144, 3), (28, .iinc 1 1, 3), (31, .goto (-18), 3), (34, .aload_n 0, 1), (35, .bipush 76, 2), (37, .iconst 0, 1), (38, .invokevirtual 147, 3), (41, .aload_n 0, 1), (42, .iconst 0, 1), (43, .putfield 151, 3), (46, .aload_n 0, 1), (47, .getfield 13, 3), (50, .iconst 0, 1), (51, .iconst 0, 1), (52, .bastore, 1), (53, .aload_n 0, 1), (54, .getfield 13, 3), (57, .iconst 1, 1), (58, .iconst 0, 1), (59, .bastore, 1), (60, .aload_n 0, 1), (61, .iconst 0, 1), (62, .putfield 60, 3), (65, .aload_n 0, 1), (66, .getfield 94, 3), (69, .ireturn, 1)] : List (Nat × Instr × Nat)), decode cX9_dike q.1 = .ok q.2 := by decide +kernel
theorem dt_X9_isYard : ∀ q ∈ ([(0, .iload_n 1, 1), (1, .i2l, 1), (2, .lconst 0, 1), (3, .aload_n 0, 1), (4, .getfield 23, 3), (7, .iconst 1, 1), (8, .isub, 1), (9, .i2l, 1), (10, .invokestatic 56, 3), (13, .ireturn, 1)] : List (Nat × Instr × Nat)), decode cX9_isYard q.1 = .ok q.2 := by decide +kernel
theorem dt_X9_isSeep : ∀ q ∈ ([(0, .iload_n 1, 1), (1, .i2l, 1), (2, .lconst 0, 1), (3, .aload_n 0, 1), (4, .getfield 127, 3), (7, .iconst 1, 1), (8, .isub, 1), (9, .i2l, 1), (10, .invokestatic 56, 3), (13, .ireturn, 1)] : List (Nat × Instr × Nat)), decode cX9_isSeep q.1 = .ok q.2 := by decide +kernel
theorem dt_X9_isChild : ∀ q ∈ ([(0, .iload_n 1, 1), (1, .i2l, 1), (2, .lconst 0, 1), (3, .aload_n 0, 1), (4, .getfield 130, 3), (7, .iconst 1, 1), (8, .isub, 1), (9, .i2l, 1), (10, .invokestatic 56, 3), (13, .ireturn, 1)] : List (Nat × Instr × Nat)), decode cX9_isChild q.1 = .ok q.2 := by decide +kernel
theorem dt_X9_tide : ∀ q ∈ ([(0, .iload_n 1, 1), (1, .i2l, 1), (2, .lconst 0, 1), (3, .ldc2_w 154, 3), (6, .invokestatic 56, 3), (9, .ifCond .eq 12, 3), (12, .aload_n 0, 1), (13, .getfield 27, 3), (16, .iload_n 1, 1), (17, .iaload, 1), (18, .goto 5, 3), (21, .bipush (-3), 2), (23, .ireturn, 1)] : List (Nat × Instr × Nat)), decode cX9_tide q.1 = .ok q.2 := by decide +kernel
theorem dt_X9_seep : ∀ q ∈ ([(0, .aload_n 0, 1), (1, .iload_n 1, 1), (2, .invokevirtual 156, 3), (5, .ifCond .ne 6, 3), (8, .bipush (-2), 2), (10, .ireturn, 1), (11, .iload_n 2, 1), (12, .tableswitch 86 0 4 #[36, 45, 52, 63, 74], 36), (48, .aload_n 0, 1), (49, .getfield 30, 3), (52, .iconst 3, 1), (53, .iload_n 1, 1), (54, .imul, 1), (55, .iaload, 1), (56, .ireturn, 1), (57, .aload_n 0, 1), (58, .getfield 7, 3), (61, .iload_n 1, 1), (62, .iaload, 1), (63, .ireturn, 1), (64, .aload_n 0, 1), (65, .getfield 30, 3), (68, .iconst 3, 1), (69, .iload_n 1, 1), (70, .imul, 1), (71, .iconst 1, 1), (72, .iadd, 1), (73, .iaload, 1), (74, .ireturn, 1), (75, .aload_n 0, 1), (76, .getfield 30, 3), (79, .iconst 3, 1), (80, .iload_n 1, 1), (81, .imul, 1), (82, .iconst 2, 1), (83, .iadd, 1), (84, .iaload, 1), (85, .ireturn, 1), (86, .aload_n 0, 1), (87, .getfield 7, 3), (90, .bipush 6, 2), (92, .iaload, 1), (93, .iload_n 1, 1), (94, .ishr, 1), (95, .iconst 1, 1), (96, .iand, 1), (97, .ireturn, 1), (98, .bipush (-3), 2), (100, .ireturn, 1)] : List (Nat × Instr × Nat)), decode cX9_seep q.1 = .ok q.2 := by decide +kernel
theorem dt_X9_earOf : ∀ q ∈ ([(0, .aload_n 0, 1), (1, .getfield 33, 3), (4, .iload_n 2, 1), (5, .iaload, 1), (6, .iconst 1, 1), (7, .if_icmp .ne 24, 3), (10, .aload_n 0, 1), (11, .getfield 39, 3), (14, .iload_n 2, 1), (15, .iaload, 1), (16, .aload_n 0, 1), (17, .getfield 7, 3), (20, .iload_n 1, 1), (21, .bipush 18, 2), (23, .iadd, 1), (24, .iaload, 1), (25, .iconst 4, 1), (26, .idiv, 1), (27, .isub, 1), (28, .goto 9, 3), (31, .aload_n 0, 1), (32, .getfield 39, 3), (35, .iload_n 2, 1), (36, .iaload, 1), (37, .istore_n 3, 1), (38, .iload_n 3, 1), (39, .ifCond .le 7, 3), (42, .iload_n 3, 1), (43, .goto 4, 3), (46, .iconst 0, 1), (47, .ireturn, 1)] : List (Nat × Instr × Nat)), decode cX9_earOf q.1 = .ok q.2 := by decide +kernel
theorem dt_X9_heardAt : ∀ q ∈ ([(0, .iconst 0, 1), (1, .istore 4, 2), (3, .iconst 0, 1), (4, .istore 5, 2), (6, .iload 5, 2), (8, .aload_n 0, 1), (9, .getfield 127, 3), (12, .if_icmp .ge 56, 3), (15, .iload 4, 2), (17, .aload_n 0, 1), (18, .getfield 7, 3), (21, .iload_n 1, 1), (22, .bipush 6, 2), (24, .iadd, 1), (25, .iaload, 1), (26, .iload 5, 2), (28, .invokestatic 159, 3), (31, .ifCond .ne 27, 3), (34, .iload_n 2, 1), (35, .aload_n 0, 1), (36, .getfield 30, 3), (39, .iconst 3, 1), (40, .iload 5, 2), (42, .imul, 1), (43, .iaload, 1), (44, .invokestatic 162, 3), (47, .iload_n 3, 1), (48, .if_icmp .gt 10, 3), (51, .iconst 1, 1), (52, .iload 5, 2), (54, .ishl, 1), (55, .goto 4, 3), (58, .iconst 0, 1), (59, .ior, 1), (60, .istore 4, 2), (62, .iinc 5 1, 3), (65, .goto (-59), 3), (68, .iload 4, 2), (70, .ireturn, 1)] : List (Nat × Instr × Nat)), decode cX9_heardAt q.1 = .ok q.2 := by decide +kernel
theorem dt_X9_hears : ∀ q ∈ ([(0, .aload_n 0, 1), (1, .getfield 33, 3), (4, .iload_n 2, 1), (5, .iaload, 1), (6, .iconst 2, 1), (7, .if_icmp .lt 7, 3), (10, .iconst 0, 1), (11, .goto 25, 3), (14, .aload_n 0, 1), (15, .iload_n 1, 1), (16, .aload_n 0, 1), (17, .getfield 7, 3), (20, .iload_n 1, 1), (21, .bipush 7, 2), (23, .iadd, 1), (24, .iload_n 2, 1), (25, .iadd, 1), (26, .iaload, 1), (27, .aload_n 0, 1), (28, .iload_n 1, 1), (29, .iload_n 2, 1), (30, .invokevirtual 166, 3), (33, .invokevirtual 169, 3), (36, .ireturn, 1)] : List (Nat × Instr × Nat)), decode cX9_hears q.1 = .ok q.2 := by decide +kernel
theorem dt_X9_tells : ∀ q ∈ ([(0, .aload_n 0, 1), (1, .getfield 7, 3), (4, .bipush 7, 2), (6, .iload_n 1, 1), (7, .iadd, 1), (8, .iaload, 1), (9, .istore_n 2, 1), (10, .aload_n 0, 1), (11, .iconst 0, 1), (12, .iload_n 1, 1), (13, .invokevirtual 173, 3), (16, .istore_n 3, 1), (17, .iconst (-1), 1), (18, .istore 4, 2), (20, .iconst 0, 1), (21, .istore 5, 2), (23, .iload 5, 2), (25, .aload_n 0, 1), (26, .getfield 23, 3), (29, .if_icmp .ge 100, 3), (32, .iconst 0, 1), (33, .istore 6, 2), (35, .iconst 0, 1), (36, .istore 7, 2), (38, .iload 7, 2), (40, .aload_n 0, 1), (41, .getfield 127, 3), (44, .if_icmp .ge 44, 3), (47, .iload 6, 2), (49, .ifCond .ne 26, 3), (52, .iload_n 3, 1), (53, .iload 7, 2), (55, .invokestatic 159, 3), (58, .ifCond .eq 21, 3), (61, .aload_n 0, 1), (62, .getfield 30, 3), (65, .iconst 3, 1), (66, .iload 7, 2), (68, .imul, 1), (69, .iaload, 1), (70, .iload 5, 2), (72, .if_icmp .ne 7, 3), (75, .iconst 1, 1), (76, .goto 4, 3), (79, .iconst 0, 1), (80, .istore 6, 2), (82, .iinc 7 1, 3), (85, .goto (-47), 3), (88, .iload 6, 2), (90, .ifCond .eq 29, 3), (93, .iload 4, 2), (95, .iconst (-1), 1), (96, .if_icmp .eq 18, 3), (99, .iload_n 2, 1), (100, .iload 5, 2), (102, .invokestatic 162, 3), (105, .iload_n 2, 1), (106, .iload 4, 2), (108, .invokestatic 162, 3), (111, .if_icmp .ge 8, 3), (114, .iload 5, 2), (116, .goto 5, 3), (119, .iload 4, 2), (121, .istore 4, 2), (123, .iinc 5 1, 3), (126, .goto (-103), 3), (129, .aload_n 0, 1), (130, .getfield 33, 3), (133, .iload_n 1, 1), (134, .iaload, 1), (135, .iconst 2, 1), (136, .if_icmp .ne 7, 3), (139, .iload_n 2, 1), (140, .goto 5, 3), (143, .iload 4, 2), (145, .ireturn, 1)] : List (Nat × Instr × Nat)), decode cX9_tells q.1 = .ok q.2 := by decide +kernel
theorem dt_X9_child : ∀ q ∈ ([(0, .aload_n 0, 1), (1, .iload_n 1, 1), (2, .invokevirtual 176, 3), (5, .ifCond .ne 6, 3), (8, .bipush (-2), 2), (10, .ireturn, 1), (11, .iload_n 2, 1), (12, .tableswitch 103 0 6 #[44, 51, 61, 68, 75, 87, 97], 44), (56, .aload_n 0, 1), (57, .getfield 33, 3), (60, .iload_n 1, 1), (61, .iaload, 1), (62, .ireturn, 1), (63, .aload_n 0, 1), (64, .getfield 7, 3), (67, .bipush 7, 2), (69, .iload_n 1, 1), (70, .iadd, 1), (71, .iaload, 1), (72, .ireturn, 1), (73, .aload_n 0, 1), (74, .getfield 36, 3), (77, .iload_n 1, 1), (78, .iaload, 1), (79, .ireturn, 1), (80, .aload_n 0, 1), (81, .iconst 0, 1), (82, .iload_n 1, 1), (83, .invokevirtual 166, 3), (86, .ireturn, 1), (87, .aload_n 0, 1), (88, .getfield 7, 3), (91, .bipush 12, 2), (93, .iaload, 1), (94, .iload_n 1, 1), (95, .ishr, 1), (96, .iconst 1, 1), (97, .iand, 1), (98, .ireturn, 1), (99, .aload_n 0, 1), (100, .getfield 7, 3), (103, .bipush 13, 2), (105, .iload_n 1, 1), (106, .iadd, 1), (107, .iaload, 1), (108, .ireturn, 1), (109, .aload_n 0, 1), (110, .iload_n 1, 1), (111, .invokevirtual 179, 3), (114, .ireturn, 1), (115, .bipush (-3), 2), (117, .ireturn, 1)] : List (Nat × Instr × Nat)), decode cX9_child q.1 = .ok q.2 := by decide +kernel
theorem dt_X9_as : ∀ q ∈ ([(0, .aload_n 0, 1), (1, .iload_n 1, 1), (2, .invokevirtual 176, 3), (5, .ifCond .ne 6, 3), (8, .bipush (-2), 2), (10, .ireturn, 1), (11, .iload_n 2, 1), (12, .i2l, 1), (13, .lconst 0, 1), (14, .ldc2_w 182, 3), (17, .invokestatic 56, 3), (20, .ifCond .ne 6, 3), (23, .bipush (-3), 2), (25, .ireturn, 1), (26, .aload_n 0, 1), (27, .getfield 33, 3), (30, .iload_n 1, 1), (31, .iaload, 1), (32, .istore_n 3, 1), (33, .iload_n 2, 1), (34, .ifCond .eq 43, 3), (37, .iload_n 2, 1), (38, .iconst 1, 1), (39, .if_icmp .ne 8, 3), (42, .iload_n 3, 1), (43, .iconst 2, 1), (44, .if_icmp .lt 33, 3), (47, .iload_n 2, 1), (48, .iconst 2, 1), (49, .if_icmp .ne 8, 3), (52, .iload_n 3, 1), (53, .iconst 1, 1), (54, .if_icmp .eq 23, 3), (57, .iload_n 2, 1), (58, .iconst 3, 1), (59, .if_icmp .ne 8, 3), (62, .iload_n 3, 1), (63, .iconst 2, 1), (64, .if_icmp .eq 13, 3), (67, .iload_n 2, 1), (68, .iconst 4, 1), (69, .if_icmp .ne 12, 3), (72, .iload_n 3, 1), (73, .iconst 3, 1), (74, .if_icmp .ne 7, 3), (77, .iconst 1, 1), (78, .goto 4, 3), (81, .iconst 0, 1), (82, .istore 4, 2), (84, .iload 4, 2), (86, .ifCond .eq 12, 3), (89, .aload_n 0, 1), (90, .iconst 0, 1), (91, .iload_n 1, 1), (92, .invokevirtual 173, 3), (95, .goto 5, 3), (98, .bipush (-4), 2), (100, .ireturn, 1)] : List (Nat × Instr × Nat)), decode cX9_as q.1 = .ok q.2 := by decide +kernel
theorem dt_X9_walk : ∀ q ∈ ([(0, .iconst 0, 1), (1, .istore_n 3, 1), (2, .iload_n 3, 1), (3, .aload_n 0, 1), (4, .getfield 36, 3), (7, .iload_n 2, 1), (8, .iaload, 1), (9, .if_icmp .ge 107, 3), (12, .aload_n 0, 1), (13, .getfield 7, 3), (16, .iload_n 1, 1), (17, .bipush 12, 2), (19, .iadd, 1), (20, .iaload, 1), (21, .iload_n 2, 1), (22, .invokestatic 159, 3), (25, .ifCond .eq 7, 3), (28, .iconst 0, 1), (29, .goto 9, 3), (32, .aload_n 0, 1), (33, .getfield 23, 3), (36, .iconst 1, 1), (37, .isub, 1), (38, .istore 4, 2), (40, .aload_n 0, 1), (41, .getfield 7, 3), (44, .iload_n 1, 1), (45, .bipush 12, 2), (47, .iadd, 1), (48, .dup2, 1), (49, .iaload, 1), (50, .aload_n 0, 1), (51, .getfield 7, 3), (54, .iload_n 1, 1), (55, .bipush 7, 2), (57, .iadd, 1), (58, .iload_n 2, 1), (59, .iadd, 1), (60, .iaload, 1), (61, .iload 4, 2), (63, .if_icmp .ne 9, 3), (66, .iconst 1, 1), (67, .iload_n 2, 1), (68, .ishl, 1), (69, .goto 4, 3), (72, .iconst 0, 1), (73, .ixor, 1), (74, .iastore, 1), (75, .aload_n 0, 1), (76, .getfield 7, 3), (79, .iload_n 1, 1), (80, .bipush 7, 2), (82, .iadd, 1), (83, .iload_n 2, 1), (84, .iadd, 1), (85, .dup2, 1), (86, .iaload, 1), (87, .aload_n 0, 1), (88, .getfield 7, 3), (91, .iload_n 1, 1), (92, .bipush 12, 2), (94, .iadd, 1), (95, .iaload, 1), (96, .iload_n 2, 1), (97, .invokestatic 159, 3), (100, .ifCond .eq 7, 3), (103, .iconst (-1), 1), (104, .goto 4, 3), (107, .iconst 1, 1), (108, .iadd, 1), (109, .iastore, 1), (110, .iinc 3 1, 3), (113, .goto (-111), 3), (116, .return_, 1)] : List (Nat × Instr × Nat)), decode cX9_walk q.1 = .ok q.2 := by decide +kernel
theorem dt_X9_hour : ∀ q ∈ ([(0, .aload_n 0, 1), (1, .getfield 27, 3), (4, .aload_n 0, 1), (5, .getfield 7, 3), (8, .iload_n 1, 1), (9, .bipush 18, 2), (11, .iadd, 1), (12, .iaload, 1), (13, .bipush 12, 2), (15, .irem, 1), (16, .iaload, 1), (17, .istore_n 2, 1), (18, .iconst 0, 1), (19, .istore_n 3, 1), (20, .iload_n 3, 1), (21, .aload_n 0, 1), (22, .getfield 127, 3), (25, .if_icmp .ge 95, 3), (28, .aload_n 0, 1), (29, .getfield 7, 3), (32, .iload_n 1, 1), (33, .bipush 6, 2), (35, .iadd, 1), (36, .iaload, 1), (37, .iload_n 3, 1), (38, .invokestatic 159, 3), (41, .ifCond .ne 30, 3), (44, .iload_n 2, 1), (45, .aload_n 0, 1), (46, .getfield 30, 3), (49, .iconst 3, 1), (50, .iload_n 3, 1), (51, .imul, 1), (52, .iconst 2, 1), (53, .iadd, 1), (54, .iaload, 1), (55, .if_icmp .lt 16, 3), (58, .aload_n 0, 1), (59, .getfield 30, 3), (62, .iconst 3, 1), (63, .iload_n 3, 1), (64, .imul, 1), (65, .iconst 1, 1), (66, .iadd, 1), (67, .iaload, 1), (68, .goto 4, 3), (71, .iconst 0, 1), (72, .istore 4, 2), (74, .aload_n 0, 1), (75, .getfield 7, 3), (78, .iload_n 1, 1), (79, .iload_n 3, 1), (80, .iadd, 1), (81, .aload_n 0, 1), (82, .getfield 7, 3), (85, .iload_n 1, 1), (86, .iload_n 3, 1), (87, .iadd, 1), (88, .iaload, 1), (89, .iload 4, 2), (91, .iadd, 1), (92, .bipush 100, 2), (94, .if_icmp .le 8, 3), (97, .bipush 100, 2), (99, .goto 14, 3), (102, .aload_n 0, 1), (103, .getfield 7, 3), (106, .iload_n 1, 1), (107, .iload_n 3, 1), (108, .iadd, 1), (109, .iaload, 1), (110, .iload 4, 2), (112, .iadd, 1), (113, .iastore, 1), (114, .iinc 3 1, 3), (117, .goto (-97), 3), (120, .iconst 0, 1), (121, .istore_n 3, 1), (122, .iload_n 3, 1), (123, .aload_n 0, 1), (124, .getfield 130, 3), (127, .if_icmp .ge 15, 3), (130, .aload_n 0, 1), (131, .iload_n 1, 1), (132, .iload_n 3, 1), (133, .invokevirtual 184, 3), (136, .iinc 3 1, 3), (139, .goto (-17), 3), (142, .aload_n 0, 1), (143, .getfield 7, 3), (146, .iload_n 1, 1), (147, .bipush 18, 2), (149, .iadd, 1), (150, .dup2, 1), (151, .iaload, 1), (152, .iconst 1, 1), (153, .iadd, 1), (154, .iastore, 1), (155, .return_, 1)] : List (Nat × Instr × Nat)), decode cX9_hour q.1 = .ok q.2 := by decide +kernel
theorem dt_X9_go : ∀ q ∈ ([(0, .iload_n 1, 1), (1, .i2l, 1), (2, .lconst 1, 1), (3, .ldc2_w 187, 3), (6, .invokestatic 56, 3), (9, .ifCond .ne 6, 3), (12, .bipush (-3), 2), (14, .ireturn, 1), (15, .aload_n 0, 1), (16, .getfield 7, 3), (19, .bipush 18, 2), (21, .iaload, 1), (22, .iload_n 1, 1), (23, .iadd, 1), (24, .sipush 9999, 3), (27, .if_icmp .le 6, 3), (30, .bipush (-5), 2), (32, .ireturn, 1), (33, .iconst 0, 1), (34, .istore_n 2, 1), (35, .iload_n 2, 1), (36, .iload_n 1, 1), (37, .if_icmp .ge 14, 3), (40, .aload_n 0, 1), (41, .iconst 0, 1), (42, .invokevirtual 189, 3), (45, .iinc 2 1, 3), (48, .goto (-13), 3), (51, .aload_n 0, 1), (52, .getfield 7, 3), (55, .bipush 18, 2), (57, .iaload, 1), (58, .ireturn, 1)] : List (Nat × Instr × Nat)), decode cX9_go q.1 = .ok q.2 := by decide +kernel
theorem dt_X9_fill : ∀ q ∈ ([(0, .aload_n 0, 1), (1, .iload_n 1, 1), (2, .invokevirtual 192, 3), (5, .ifCond .ne 6, 3), (8, .bipush (-2), 2), (10, .ireturn, 1), (11, .iconst 0, 1), (12, .istore_n 2, 1), (13, .iconst 0, 1), (14, .istore_n 3, 1), (15, .iconst 0, 1), (16, .istore 4, 2), (18, .iconst 0, 1), (19, .istore 5, 2), (21, .iload 5, 2), (23, .aload_n 0, 1), (24, .getfield 127, 3), (27, .if_icmp .ge 87, 3), (30, .aload_n 0, 1), (31, .getfield 30, 3), (34, .iconst 3, 1), (35, .iload 5, 2), (37, .imul, 1), (38, .iaload, 1), (39, .iload_n 1, 1), (40, .if_icmp .ne 22, 3), (43, .aload_n 0, 1), (44, .getfield 7, 3), (47, .bipush 6, 2), (49, .iaload, 1), (50, .iload 5, 2), (52, .invokestatic 159, 3), (55, .ifCond .ne 7, 3), (58, .iconst 1, 1), (59, .goto 4, 3), (62, .iconst 0, 1), (63, .istore 6, 2), (65, .iload_n 2, 1), (66, .ifCond .ne 20, 3), (69, .iload 6, 2), (71, .ifCond .eq 19, 3), (74, .aload_n 0, 1), (75, .getfield 7, 3), (78, .iload 5, 2), (80, .iaload, 1), (81, .bipush 100, 2), (83, .if_icmp .ge 7, 3), (86, .iconst 1, 1), (87, .goto 4, 3), (90, .iconst 0, 1), (91, .istore_n 2, 1), (92, .iload_n 3, 1), (93, .iload 6, 2), (95, .ifCond .eq 10, 3), (98, .iconst 1, 1), (99, .iload 5, 2), (101, .ishl, 1), (102, .goto 4, 3), (105, .iconst 0, 1), (106, .ior, 1), (107, .istore_n 3, 1), (108, .iinc 5 1, 3), (111, .goto (-90), 3), (114, .iconst 0, 1), (115, .istore 5, 2), (117, .iload 5, 2), (119, .aload_n 0, 1), (120, .getfield 130, 3), (123, .if_icmp .ge 82, 3), (126, .iload_n 2, 1), (127, .ifCond .eq 78, 3), (130, .aload_n 0, 1), (131, .iload 5, 2), (133, .invokevirtual 179, 3), (136, .istore 6, 2), (138, .iload 6, 2), (140, .iconst (-1), 1), (141, .if_icmp .ne 7, 3), (144, .iconst 0, 1), (145, .goto 12, 3), (148, .bipush 9, 2), (150, .iload 6, 2), (152, .iload_n 1, 1), (153, .invokestatic 162, 3), (156, .isub, 1), (157, .istore 7, 2), (159, .aload_n 0, 1), (160, .getfield 7, 3), (163, .bipush 13, 2), (165, .iload 5, 2), (167, .iadd, 1), (168, .dup2, 1), (169, .iaload, 1), (170, .iload 7, 2), (172, .ifCond .le 8, 3), (175, .iload 7, 2), (177, .goto 4, 3), (180, .iconst 0, 1), (181, .iadd, 1), (182, .iastore, 1), (183, .iload 4, 2), (185, .iload 7, 2), (187, .ifCond .le 8, 3), (190, .iload 7, 2), (192, .goto 4, 3), (195, .iconst 0, 1), (196, .iadd, 1), (197, .istore 4, 2), (199, .iinc 5 1, 3), (202, .goto (-85), 3), (205, .aload_n 0, 1), (206, .getfield 7, 3), (209, .bipush 6, 2), (211, .dup2, 1), (212, .iaload, 1), (213, .iload_n 3, 1), (214, .ior, 1), (215, .iastore, 1), (216, .iload 4, 2), (218, .ireturn, 1)] : List (Nat × Instr × Nat)), decode cX9_fill q.1 = .ok q.2 := by decide +kernel
theorem dt_X9_keep : ∀ q ∈ ([(0, .iload_n 1, 1), (1, .i2l, 1), (2, .lconst 0, 1), (3, .lconst 1, 1), (4, .invokestatic 56, 3), (7, .ifCond .ne 6, 3), (10, .bipush (-2), 2), (12, .ireturn, 1), (13, .aload_n 0, 1), (14, .iconst 0, 1), (15, .bipush 19, 2), (17, .iconst 1, 1), (18, .iload_n 1, 1), (19, .iadd, 1), (20, .imul, 1), (21, .invokevirtual 147, 3), (24, .aload_n 0, 1), (25, .getfield 13, 3), (28, .iload_n 1, 1), (29, .iconst 1, 1), (30, .bastore, 1), (31, .aload_n 0, 1), (32, .getfield 7, 3), (35, .bipush 18, 2), (37, .iaload, 1), (38, .ireturn, 1)] : List (Nat × Instr × Nat)), decode cX9_keep q.1 = .ok q.2 := by decide +kernel
theorem dt_X9_back : ∀ q ∈ ([(0, .iload_n 1, 1), (1, .i2l, 1), (2, .lconst 0, 1), (3, .lconst 1, 1), (4, .invokestatic 56, 3), (7, .ifCond .ne 6, 3), (10, .bipush (-2), 2), (12, .ireturn, 1), (13, .aload_n 0, 1), (14, .getfield 13, 3), (17, .iload_n 1, 1), (18, .baload, 1), (19, .ifCond .ne 6, 3), (22, .bipush (-4), 2), (24, .ireturn, 1), (25, .aload_n 0, 1), (26, .bipush 19, 2), (28, .iconst 1, 1), (29, .iload_n 1, 1), (30, .iadd, 1), (31, .imul, 1), (32, .iconst 0, 1), (33, .invokevirtual 147, 3), (36, .aload_n 0, 1), (37, .getfield 7, 3), (40, .bipush 18, 2), (42, .iaload, 1), (43, .ireturn, 1)] : List (Nat × Instr × Nat)), decode cX9_back q.1 = .ok q.2 := by decide +kernel
theorem dt_X9_later : ∀ q ∈ ([(0, .iload_n 3, 1), (1, .i2l, 1), (2, .lconst 0, 1), (3, .ldc2_w 195, 3), (6, .invokestatic 56, 3), (9, .ifCond .ne 6, 3), (12, .bipush (-3), 2), (14, .ireturn, 1), (15, .iload_n 3, 1), (16, .ifCond .ne 14, 3), (19, .aload_n 0, 1), (20, .iload_n 1, 1), (21, .invokevirtual 156, 3), (24, .ifCond .ne 17, 3), (27, .goto 11, 3), (30, .aload_n 0, 1), (31, .iload_n 1, 1), (32, .invokevirtual 176, 3), (35, .ifCond .ne 6, 3), (38, .bipush (-2), 2), (40, .ireturn, 1), (41, .iload_n 2, 1), (42, .i2l, 1), (43, .lconst 0, 1), (44, .ldc2_w 187, 3), (47, .invokestatic 56, 3), (50, .ifCond .ne 6, 3), (53, .bipush (-3), 2), (55, .ireturn, 1), (56, .aload_n 0, 1), (57, .iconst 0, 1), (58, .bipush 57, 2), (60, .invokevirtual 147, 3), (63, .iconst 0, 1), (64, .istore 4, 2), (66, .iload 4, 2), (68, .iload_n 2, 1), (69, .if_icmp .ge 15, 3), (72, .aload_n 0, 1), (73, .bipush 57, 2), (75, .invokevirtual 189, 3), (78, .iinc 4 1, 3), (81, .goto (-15), 3), (84, .iload_n 3, 1), (85, .ifCond .ne 15, 3), (88, .aload_n 0, 1), (89, .getfield 7, 3), (92, .bipush 57, 2), (94, .iload_n 1, 1), (95, .iadd, 1), (96, .iaload, 1), (97, .goto 27, 3), (100, .iload_n 3, 1), (101, .iconst 1, 1), (102, .if_icmp .ne 15, 3), (105, .aload_n 0, 1), (106, .getfield 7, 3), (109, .bipush 64, 2), (111, .iload_n 1, 1), (112, .iadd, 1), (113, .iaload, 1), (114, .goto 10, 3), (117, .aload_n 0, 1), (118, .bipush 57, 2), (120, .iload_n 1, 1), (121, .invokevirtual 173, 3), (124, .ireturn, 1)] : List (Nat × Instr × Nat)), decode cX9_later q.1 = .ok q.2 := by decide +kernel
theorem dt_X9_breaksIn : ∀ q ∈ ([(0, .aload_n 0, 1), (1, .iconst 0, 1), (2, .bipush 57, 2), (4, .invokevirtual 147, 3), (7, .iconst 0, 1), (8, .istore_n 2, 1), (9, .iload_n 2, 1), (10, .sipush 999, 3), (13, .if_icmp .ge 29, 3), (16, .aload_n 0, 1), (17, .getfield 7, 3), (20, .bipush 57, 2), (22, .iload_n 1, 1), (23, .iadd, 1), (24, .iaload, 1), (25, .bipush 100, 2), (27, .if_icmp .ge 15, 3), (30, .aload_n 0, 1), (31, .bipush 57, 2), (33, .invokevirtual 189, 3), (36, .iinc 2 1, 3), (39, .goto (-30), 3), (42, .aload_n 0, 1), (43, .getfield 7, 3), (46, .bipush 57, 2), (48, .iload_n 1, 1), (49, .iadd, 1), (50, .iaload, 1), (51, .bipush 100, 2), (53, .if_icmp .ne 7, 3), (56, .iload_n 2, 1), (57, .goto 4, 3), (60, .iconst (-1), 1), (61, .ireturn, 1)] : List (Nat × Instr × Nat)), decode cX9_breaksIn q.1 = .ok q.2 := by decide +kernel
theorem dt_X9_breaks : ∀ q ∈ ([(0, .aload_n 0, 1), (1, .iload_n 1, 1), (2, .invokevirtual 156, 3), (5, .ifCond .ne 6, 3), (8, .bipush (-2), 2), (10, .ireturn, 1), (11, .aload_n 0, 1), (12, .getfield 7, 3), (15, .bipush 6, 2), (17, .iaload, 1), (18, .iload_n 1, 1), (19, .invokestatic 159, 3), (22, .ifCond .eq 8, 3), (25, .bipush (-4), 2), (27, .goto 8, 3), (30, .aload_n 0, 1), (31, .iload_n 1, 1), (32, .invokevirtual 197, 3), (35, .ireturn, 1)] : List (Nat × Instr × Nat)), decode cX9_breaks q.1 = .ok q.2 := by decide +kernel
theorem dt_X9_heardBy : ∀ q ∈ ([(0, .aload_n 0, 1), (1, .iload_n 1, 1), (2, .invokevirtual 197, 3), (5, .istore_n 2, 1), (6, .iconst 0, 1), (7, .istore_n 3, 1), (8, .aload_n 0, 1), (9, .iconst 0, 1), (10, .bipush 57, 2), (12, .invokevirtual 147, 3), (15, .iconst 0, 1), (16, .istore 4, 2), (18, .iload 4, 2), (20, .iload_n 2, 1), (21, .if_icmp .ge 59, 3), (24, .iconst 0, 1), (25, .istore 5, 2), (27, .iload 5, 2), (29, .aload_n 0, 1), (30, .getfield 130, 3), (33, .if_icmp .ge 35, 3), (36, .iload_n 3, 1), (37, .aload_n 0, 1), (38, .bipush 57, 2), (40, .iload 5, 2), (42, .invokevirtual 173, 3), (45, .iload_n 1, 1), (46, .invokestatic 159, 3), (49, .ifCond .eq 10, 3), (52, .iconst 1, 1), (53, .iload 5, 2), (55, .ishl, 1), (56, .goto 4, 3), (59, .iconst 0, 1), (60, .ior, 1), (61, .istore_n 3, 1), (62, .iinc 5 1, 3), (65, .goto (-38), 3), (68, .aload_n 0, 1), (69, .bipush 57, 2), (71, .invokevirtual 189, 3), (74, .iinc 4 1, 3), (77, .goto (-59), 3), (80, .iload_n 3, 1), (81, .ireturn, 1)] : List (Nat × Instr × Nat)), decode cX9_heardBy q.1 = .ok q.2 := by decide +kernel
theorem dt_X9_layHearers : ∀ q ∈ ([(0, .iconst 0, 1), (1, .istore_n 1, 1), (2, .iload_n 1, 1), (3, .aload_n 0, 1), (4, .getfield 127, 3), (7, .if_icmp .ge 56, 3), (10, .aload_n 0, 1), (11, .getfield 7, 3), (14, .bipush 6, 2), (16, .iaload, 1), (17, .iload_n 1, 1), (18, .invokestatic 159, 3), (21, .ifCond .ne 15, 3), (24, .aload_n 0, 1), (25, .iload_n 1, 1), (26, .invokevirtual 197, 3), (29, .ifCond .le 7, 3), (32, .iconst 1, 1), (33, .goto 4, 3), (36, .iconst 0, 1), (37, .istore_n 2, 1), (38, .aload_n 0, 1), (39, .getfield 42, 3), (42, .iload_n 1, 1), (43, .iload_n 2, 1), (44, .ifCond .eq 11, 3), (47, .aload_n 0, 1), (48, .iload_n 1, 1), (49, .invokevirtual 200, 3), (52, .goto 4, 3), (55, .iconst (-1), 1), (56, .iastore, 1), (57, .iinc 1 1, 3), (60, .goto (-58), 3), (63, .return_, 1)] : List (Nat × Instr × Nat)), decode cX9_layHearers q.1 = .ok q.2 := by decide +kernel
theorem dt_X9_missedBy : ∀ q ∈ ([(0, .iconst 0, 1), (1, .istore_n 2, 1), (2, .iconst 0, 1), (3, .istore_n 3, 1), (4, .iload_n 3, 1), (5, .aload_n 0, 1), (6, .getfield 127, 3), (9, .if_icmp .ge 40, 3), (12, .iload_n 2, 1), (13, .aload_n 0, 1), (14, .getfield 42, 3), (17, .iload_n 3, 1), (18, .iaload, 1), (19, .iconst (-1), 1), (20, .if_icmp .eq 20, 3), (23, .aload_n 0, 1), (24, .getfield 42, 3), (27, .iload_n 3, 1), (28, .iaload, 1), (29, .iload_n 1, 1), (30, .iand, 1), (31, .ifCond .ne 9, 3), (34, .iconst 1, 1), (35, .iload_n 3, 1), (36, .ishl, 1), (37, .goto 4, 3), (40, .iconst 0, 1), (41, .ior, 1), (42, .istore_n 2, 1), (43, .iinc 3 1, 3), (46, .goto (-42), 3), (49, .iload_n 2, 1), (50, .ireturn, 1)] : List (Nat × Instr × Nat)), decode cX9_missedBy q.1 = .ok q.2 := by decide +kernel
theorem dt_X9_missed : ∀ q ∈ ([(0, .iload_n 1, 1), (1, .i2l, 1), (2, .lconst 0, 1), (3, .iconst 1, 1), (4, .aload_n 0, 1), (5, .getfield 130, 3), (8, .ishl, 1), (9, .iconst 1, 1), (10, .isub, 1), (11, .i2l, 1), (12, .invokestatic 56, 3), (15, .ifCond .ne 6, 3), (18, .bipush (-2), 2), (20, .ireturn, 1), (21, .aload_n 0, 1), (22, .invokevirtual 203, 3), (25, .aload_n 0, 1), (26, .iload_n 1, 1), (27, .invokevirtual 206, 3), (30, .ireturn, 1)] : List (Nat × Instr × Nat)), decode cX9_missed q.1 = .ok q.2 := by decide +kernel
theorem dt_X9_watch : ∀ q ∈ ([(0, .iload_n 1, 1), (1, .i2l, 1), (2, .lconst 0, 1), (3, .lconst 1, 1), (4, .invokestatic 56, 3), (7, .ifCond .ne 6, 3), (10, .bipush (-3), 2), (12, .ireturn, 1), (13, .aload_n 0, 1), (14, .invokevirtual 203, 3), (17, .iconst (-1), 1), (18, .istore_n 2, 1), (19, .iconst 0, 1), (20, .istore_n 3, 1), (21, .iload_n 3, 1), (22, .iconst 1, 1), (23, .aload_n 0, 1), (24, .getfield 130, 3), (27, .ishl, 1), (28, .if_icmp .ge 39, 3), (31, .aload_n 0, 1), (32, .iload_n 3, 1), (33, .invokevirtual 206, 3), (36, .ifCond .ne 23, 3), (39, .iload_n 2, 1), (40, .iconst (-1), 1), (41, .if_icmp .eq 14, 3), (44, .iload_n 3, 1), (45, .invokestatic 209, 3), (48, .iload_n 2, 1), (49, .invokestatic 209, 3), (52, .if_icmp .ge 7, 3), (55, .iload_n 3, 1), (56, .goto 4, 3), (59, .iload_n 2, 1), (60, .istore_n 2, 1), (61, .iinc 3 1, 3), (64, .goto (-43), 3), (67, .iload_n 2, 1), (68, .iconst (-1), 1), (69, .if_icmp .ne 7, 3), (72, .iconst (-1), 1), (73, .goto 15, 3), (76, .iload_n 1, 1), (77, .ifCond .ne 10, 3), (80, .iload_n 2, 1), (81, .invokestatic 209, 3), (84, .goto 4, 3), (87, .iload_n 2, 1), (88, .ireturn, 1)] : List (Nat × Instr × Nat)), decode cX9_watch q.1 = .ok q.2 := by decide +kernel
theorem dt_X9_rowOf : ∀ q ∈ ([(0, .iconst 1, 1), (1, .aload_n 0, 1), (2, .getfield 212, 3), (5, .ishl, 1), (6, .iconst 1, 1), (7, .isub, 1), (8, .istore_n 3, 1), (9, .iconst (-1), 1), (10, .istore 4, 2), (12, .iload_n 1, 1), (13, .istore 5, 2), (15, .iconst 1, 1), (16, .istore 6, 2), (18, .iconst 2, 1), (19, .istore 7, 2), (21, .iload 7, 2), (23, .aload_n 0, 1), (24, .getfield 212, 3), (27, .if_icmp .ge 16, 3), (30, .iload 6, 2), (32, .iload 7, 2), (34, .imul, 1), (35, .istore 6, 2), (37, .iinc 7 1, 3), (40, .goto (-19), 3), (43, .iconst 0, 1), (44, .istore 7, 2), (46, .iload 7, 2), (48, .iload_n 2, 1), (49, .if_icmp .gt 104, 3), (52, .iload 5, 2), (54, .iload 6, 2), (56, .idiv, 1), (57, .istore 8, 2), (59, .iconst 0, 1), (60, .istore 4, 2), (62, .iload_n 3, 1), (63, .iload 4, 2), (65, .invokestatic 159, 3), (68, .ifCond .eq 8, 3), (71, .iload 8, 2), (73, .ifCond .le 28, 3), (76, .iload 8, 2), (78, .iload_n 3, 1), (79, .iload 4, 2), (81, .invokestatic 159, 3), (84, .ifCond .eq 7, 3), (87, .iconst 1, 1), (88, .goto 4, 3), (91, .iconst 0, 1), (92, .isub, 1), (93, .istore 8, 2), (95, .iinc 4 1, 3), (98, .goto (-36), 3), (101, .iload 5, 2), (103, .iload 6, 2), (105, .irem, 1), (106, .istore 5, 2), (108, .iload_n 3, 1), (109, .iconst 1, 1), (110, .iload 4, 2), (112, .ishl, 1), (113, .iconst (-1), 1), (114, .ixor, 1), (115, .iand, 1), (116, .istore_n 3, 1), (117, .aload_n 0, 1), (118, .getfield 212, 3), (121, .iconst 1, 1), (122, .isub, 1), (123, .iload 7, 2), (125, .isub, 1), (126, .ifCond .le 18, 3), (129, .iload 6, 2), (131, .aload_n 0, 1), (132, .getfield 212, 3), (135, .iconst 1, 1), (136, .isub, 1), (137, .iload 7, 2), (139, .isub, 1), (140, .idiv, 1), (141, .goto 4, 3), (144, .iconst 1, 1), (145, .istore 6, 2), (147, .iinc 7 1, 3), (150, .goto (-104), 3), (153, .aload_n 0, 1), (154, .getfield 45, 3), (157, .iload 4, 2), (159, .iaload, 1), (160, .ireturn, 1)] : List (Nat × Instr × Nat)), decode cX9_rowOf q.1 = .ok q.2 := by decide +kernel
theorem dt_X9_lostBy : ∀ q ∈ ([(0, .iload_n 2, 1), (1, .istore_n 3, 1), (2, .iconst 0, 1), (3, .istore 4, 2), (5, .iconst 0, 1), (6, .istore 5, 2), (8, .iconst 0, 1), (9, .istore 6, 2), (11, .iload 6, 2), (13, .aload_n 0, 1), (14, .getfield 212, 3), (17, .if_icmp .ge 81, 3), (20, .aload_n 0, 1), (21, .iload_n 1, 1), (22, .iload 6, 2), (24, .invokevirtual 215, 3), (27, .istore 7, 2), (29, .iload 4, 2), (31, .iload_n 3, 1), (32, .aload_n 0, 1), (33, .getfield 30, 3), (36, .iconst 3, 1), (37, .iload 7, 2), (39, .imul, 1), (40, .iaload, 1), (41, .invokestatic 162, 3), (44, .iconst 1, 1), (45, .iadd, 1), (46, .iadd, 1), (47, .istore 4, 2), (49, .aload_n 0, 1), (50, .getfield 30, 3), (53, .iconst 3, 1), (54, .iload 7, 2), (56, .imul, 1), (57, .iaload, 1), (58, .istore_n 3, 1), (59, .iload 5, 2), (61, .aload_n 0, 1), (62, .getfield 48, 3), (65, .iload 7, 2), (67, .iaload, 1), (68, .iconst (-1), 1), (69, .if_icmp .eq 19, 3), (72, .aload_n 0, 1), (73, .getfield 48, 3), (76, .iload 7, 2), (78, .iaload, 1), (79, .iload 4, 2), (81, .if_icmp .gt 7, 3), (84, .iconst 1, 1), (85, .goto 4, 3), (88, .iconst 0, 1), (89, .iadd, 1), (90, .istore 5, 2), (92, .iinc 6 1, 3), (95, .goto (-84), 3), (98, .iload 5, 2), (100, .ireturn, 1)] : List (Nat × Instr × Nat)), decode cX9_lostBy q.1 = .ok q.2 := by decide +kernel
theorem dt_X9_order : ∀ q ∈ ([(0, .aload_n 0, 1), (1, .iload_n 1, 1), (2, .invokevirtual 192, 3), (5, .ifCond .eq 21, 3), (8, .iload_n 2, 1), (9, .i2l, 1), (10, .lconst 0, 1), (11, .iconst 1, 1), (12, .aload_n 0, 1), (13, .getfield 127, 3), (16, .ishl, 1), (17, .iconst 1, 1), (18, .isub, 1), (19, .i2l, 1), (20, .invokestatic 56, 3), (23, .ifCond .ne 6, 3), (26, .bipush (-2), 2), (28, .ireturn, 1), (29, .iload_n 3, 1), (30, .iconst (-1), 1), (31, .if_icmp .ge 6, 3), (34, .bipush (-3), 2), (36, .ireturn, 1), (37, .iload_n 2, 1), (38, .invokestatic 209, 3), (41, .iconst 5, 1), (42, .if_icmp .gt 15, 3), (45, .iload_n 2, 1), (46, .aload_n 0, 1), (47, .getfield 7, 3), (50, .bipush 6, 2), (52, .iaload, 1), (53, .iand, 1), (54, .ifCond .eq 6, 3), (57, .bipush (-4), 2), (59, .ireturn, 1), (60, .aload_n 0, 1), (61, .iconst 0, 1), (62, .putfield 212, 3), (65, .iconst 1, 1), (66, .istore 4, 2), (68, .iconst 0, 1), (69, .istore 5, 2), (71, .iload 5, 2), (73, .aload_n 0, 1), (74, .getfield 127, 3), (77, .if_icmp .ge 61, 3), (80, .iload_n 2, 1), (81, .iload 5, 2), (83, .invokestatic 159, 3), (86, .ifCond .eq 46, 3), (89, .aload_n 0, 1), (90, .getfield 48, 3), (93, .iload 5, 2), (95, .aload_n 0, 1), (96, .iload 5, 2), (98, .invokevirtual 197, 3), (101, .iastore, 1), (102, .aload_n 0, 1), (103, .getfield 45, 3), (106, .aload_n 0, 1), (107, .getfield 212, 3), (110, .iload 5, 2), (112, .iastore, 1), (113, .aload_n 0, 1), (114, .dup, 1), (115, .getfield 212, 3), (118, .iconst 1, 1), (119, .iadd, 1), (120, .putfield 212, 3), (123, .iload 4, 2), (125, .aload_n 0, 1), (126, .getfield 212, 3), (129, .imul, 1), (130, .istore 4, 2), (132, .iinc 5 1, 3), (135, .goto (-64), 3), (138, .iconst 0, 1), (139, .istore 5, 2), (141, .bipush 99, 2), (143, .istore 6, 2), (145, .iconst 0, 1), (146, .istore 7, 2), (148, .iload 7, 2), (150, .iload 4, 2), (152, .if_icmp .ge 50, 3), (155, .aload_n 0, 1), (156, .iload 7, 2), (158, .iload_n 1, 1), (159, .invokevirtual 218, 3), (162, .istore 8, 2), (164, .iload 8, 2), (166, .iload 6, 2), (168, .if_icmp .ge 8, 3), (171, .iload 7, 2), (173, .goto 5, 3), (176, .iload 5, 2), (178, .istore 5, 2), (180, .iload 8, 2), (182, .iload 6, 2), (184, .if_icmp .ge 8, 3), (187, .iload 8, 2), (189, .goto 5, 3), (192, .iload 6, 2), (194, .istore 6, 2), (196, .iinc 7 1, 3), (199, .goto (-51), 3), (202, .iload_n 3, 1), (203, .iconst (-1), 1), (204, .if_icmp .ne 8, 3), (207, .iload 6, 2), (209, .goto 22, 3), (212, .iload_n 3, 1), (213, .aload_n 0, 1), (214, .getfield 212, 3), (217, .if_icmp .ge 13, 3), (220, .aload_n 0, 1), (221, .iload 5, 2), (223, .iload_n 3, 1), (224, .invokevirtual 215, 3), (227, .goto 4, 3), (230, .iconst (-1), 1), (231, .ireturn, 1)] : List (Nat × Instr × Nat)), decode cX9_order q.1 = .ok q.2 := by decide +kernel
theorem dt_X9_power : ∀ q ∈ ([(0, .lconst 1, 1), (1, .lstore_n 3, 1), (2, .iconst 0, 1), (3, .istore 5, 2), (5, .iload 5, 2), (7, .iload_n 2, 1), (8, .if_icmp .ge 13, 3), (11, .lload_n 3, 1), (12, .lload_n 0, 1), (13, .lmul, 1), (14, .lstore_n 3, 1), (15, .iinc 5 1, 3), (18, .goto (-13), 3), (21, .lload_n 3, 1), (22, .lreturn, 1)] : List (Nat × Instr × Nat)), decode cX9_power q.1 = .ok q.2 := by decide +kernel
theorem dt_X9_growths : ∀ q ∈ ([(0, .aload_n 0, 1), (1, .getfield 30, 3), (4, .iconst 3, 1), (5, .iload_n 1, 1), (6, .imul, 1), (7, .iconst 1, 1), (8, .iadd, 1), (9, .iaload, 1), (10, .istore_n 2, 1), (11, .bipush 100, 2), (13, .aload_n 0, 1), (14, .getfield 7, 3), (17, .iload_n 1, 1), (18, .iaload, 1), (19, .isub, 1), (20, .istore_n 3, 1), (21, .iload_n 3, 1), (22, .ifCond .ne 7, 3), (25, .iconst 0, 1), (26, .goto 20, 3), (29, .iload_n 2, 1), (30, .ifCond .ne 9, 3), (33, .sipush 999, 3), (36, .goto 10, 3), (39, .iload_n 3, 1), (40, .iload_n 2, 1), (41, .iadd, 1), (42, .iconst 1, 1), (43, .isub, 1), (44, .iload_n 2, 1), (45, .idiv, 1), (46, .ireturn, 1)] : List (Nat × Instr × Nat)), decode cX9_growths q.1 = .ok q.2 := by decide +kernel
theorem dt_X9_storms : ∀ q ∈ ([(0, .aload_n 0, 1), (1, .iload_n 1, 1), (2, .invokevirtual 156, 3), (5, .ifCond .ne 7, 3), (8, .ldc2_w 221, 3), (11, .lreturn, 1), (12, .iload_n 2, 1), (13, .i2l, 1), (14, .lconst 0, 1), (15, .ldc2_w 223, 3), (18, .invokestatic 56, 3), (21, .ifCond .eq 26, 3), (24, .iload_n 3, 1), (25, .i2l, 1), (26, .lconst 0, 1), (27, .ldc2_w 225, 3), (30, .invokestatic 56, 3), (33, .ifCond .eq 14, 3), (36, .iload 4, 2), (38, .i2l, 1), (39, .lconst 0, 1), (40, .lconst 1, 1), (41, .invokestatic 56, 3), (44, .ifCond .ne 7, 3), (47, .ldc2_w 227, 3), (50, .lreturn, 1), (51, .aload_n 0, 1), (52, .getfield 7, 3), (55, .bipush 6, 2), (57, .iaload, 1), (58, .iload_n 1, 1), (59, .invokestatic 159, 3), (62, .ifCond .eq 7, 3), (65, .ldc2_w 229, 3), (68, .lreturn, 1), (69, .lconst 0, 1), (70, .lstore 5, 2), (72, .lconst 1, 1), (73, .lstore 7, 2), (75, .iconst 0, 1), (76, .istore 9, 2), (78, .iload 9, 2), (80, .iload_n 2, 1), (81, .if_icmp .gt 68, 3), (84, .lload 5, 2), (86, .iload 9, 2), (88, .aload_n 0, 1), (89, .iload_n 1, 1), (90, .invokevirtual 231, 3), (93, .if_icmp .lt 30, 3), (96, .lload 7, 2), (98, .iload_n 3, 1), (99, .i2l, 1), (100, .iload 9, 2), (102, .invokestatic 234, 3), (105, .lmul, 1), (106, .ldc2_w 225, 3), (109, .iload_n 3, 1), (110, .i2l, 1), (111, .lsub, 1), (112, .iload_n 2, 1), (113, .iload 9, 2), (115, .isub, 1), (116, .invokestatic 234, 3), (119, .lmul, 1), (120, .goto 4, 3), (123, .lconst 0, 1), (124, .ladd, 1), (125, .lstore 5, 2), (127, .lload 7, 2), (129, .iload_n 2, 1), (130, .iload 9, 2), (132, .isub, 1), (133, .i2l, 1), (134, .lmul, 1), (135, .iload 9, 2), (137, .iconst 1, 1), (138, .iadd, 1), (139, .i2l, 1), (140, .ldiv, 1), (141, .lstore 7, 2), (143, .iinc 9 1, 3), (146, .goto (-68), 3), (149, .ldc2_w 225, 3), (152, .iload_n 2, 1), (153, .invokestatic 234, 3), (156, .lstore 9, 2), (158, .lload 5, 2), (160, .lstore 11, 2), (162, .lload 9, 2), (164, .lstore 13, 2), (166, .lload 13, 2), (168, .lconst 0, 1), (169, .lcmp, 1), (170, .ifCond .eq 21, 3), (173, .lload 11, 2), (175, .lload 13, 2), (177, .lrem, 1), (178, .lstore 15, 2), (180, .lload 13, 2), (182, .lstore 11, 2), (184, .lload 15, 2), (186, .lstore 13, 2), (188, .goto (-22), 3), (191, .iload 4, 2), (193, .ifCond .ne 11, 3), (196, .lload 5, 2), (198, .lload 11, 2), (200, .ldiv, 1), (201, .goto 8, 3), (204, .lload 9, 2), (206, .lload 11, 2), (208, .ldiv, 1), (209, .lreturn, 1)] : List (Nat × Instr × Nat)), decode cX9_storms q.1 = .ok q.2 := by decide +kernel
theorem dt_X9_guard : ∀ q ∈ ([(0, .iload_n 1, 1), (1, .i2l, 1), (2, .lconst 0, 1), (3, .ldc2_w 238, 3), (6, .invokestatic 56, 3), (9, .ifCond .eq 13, 3), (12, .iload_n 2, 1), (13, .i2l, 1), (14, .lconst 0, 1), (15, .lconst 1, 1), (16, .invokestatic 56, 3), (19, .ifCond .ne 6, 3), (22, .bipush (-3), 2), (24, .ireturn, 1), (25, .iconst 0, 1), (26, .istore_n 3, 1), (27, .iconst 1, 1), (28, .istore 4, 2), (30, .iload 4, 2), (32, .aload_n 0, 1), (33, .getfield 23, 3), (36, .if_icmp .ge 40, 3), (39, .aload_n 0, 1), (40, .iconst 0, 1), (41, .iload 4, 2), (43, .iload_n 1, 1), (44, .invokevirtual 169, 3), (47, .invokestatic 209, 3), (50, .aload_n 0, 1), (51, .iconst 0, 1), (52, .iload_n 3, 1), (53, .iload_n 1, 1), (54, .invokevirtual 169, 3), (57, .invokestatic 209, 3), (60, .if_icmp .le 8, 3), (63, .iload 4, 2), (65, .goto 4, 3), (68, .iload_n 3, 1), (69, .istore_n 3, 1), (70, .iinc 4 1, 3), (73, .goto (-43), 3), (76, .iload_n 2, 1), (77, .ifCond .ne 7, 3), (80, .iload_n 3, 1), (81, .goto 10, 3), (84, .aload_n 0, 1), (85, .iconst 0, 1), (86, .iload_n 3, 1), (87, .iload_n 1, 1), (88, .invokevirtual 169, 3), (91, .ireturn, 1)] : List (Nat × Instr × Nat)), decode cX9_guard q.1 = .ok q.2 := by decide +kernel
theorem dt_X9_see : ∀ q ∈ ([(0, .aload_n 0, 1), (1, .getfield 151, 3), (4, .bipush 9, 2), (6, .if_icmp .ne 6, 3), (9, .bipush (-5), 2), (11, .ireturn, 1), (12, .aload_n 0, 1), (13, .getfield 51, 3), (16, .iconst 3, 1), (17, .aload_n 0, 1), (18, .getfield 151, 3), (21, .imul, 1), (22, .iload_n 1, 1), (23, .iastore, 1), (24, .aload_n 0, 1), (25, .getfield 51, 3), (28, .iconst 3, 1), (29, .aload_n 0, 1), (30, .getfield 151, 3), (33, .imul, 1), (34, .iconst 1, 1), (35, .iadd, 1), (36, .iload_n 2, 1), (37, .iastore, 1), (38, .aload_n 0, 1), (39, .getfield 51, 3), (42, .iconst 3, 1), (43, .aload_n 0, 1), (44, .getfield 151, 3), (47, .imul, 1), (48, .iconst 2, 1), (49, .iadd, 1), (50, .iload_n 3, 1), (51, .iastore, 1), (52, .aload_n 0, 1), (53, .dup, 1), (54, .getfield 151, 3), (57, .iconst 1, 1), (58, .iadd, 1), (59, .putfield 151, 3), (62, .aload_n 0, 1), (63, .getfield 151, 3), (66, .ireturn, 1)] : List (Nat × Instr × Nat)), decode cX9_see q.1 = .ok q.2 := by decide +kernel
theorem dt_X9_seen : ∀ q ∈ ([(0, .aload_n 0, 1), (1, .iload_n 1, 1), (2, .invokevirtual 192, 3), (5, .ifCond .ne 6, 3), (8, .bipush (-2), 2), (10, .ireturn, 1), (11, .iload_n 2, 1), (12, .i2l, 1), (13, .lconst 0, 1), (14, .ldc2_w 238, 3), (17, .invokestatic 56, 3), (20, .ifCond .eq 23, 3), (23, .iload_n 3, 1), (24, .i2l, 1), (25, .lconst 0, 1), (26, .lconst 1, 1), (27, .invokestatic 56, 3), (30, .ifCond .eq 13, 3), (33, .aload_n 0, 1), (34, .iload_n 1, 1), (35, .iload_n 2, 1), (36, .iload_n 3, 1), (37, .invokevirtual 240, 3), (40, .goto 5, 3), (43, .bipush (-3), 2), (45, .ireturn, 1)] : List (Nat × Instr × Nat)), decode cX9_seen q.1 = .ok q.2 := by decide +kernel
theorem dt_X9_paid : ∀ q ∈ ([(0, .aload_n 0, 1), (1, .iload_n 1, 1), (2, .invokevirtual 192, 3), (5, .ifCond .ne 6, 3), (8, .bipush (-2), 2), (10, .ireturn, 1), (11, .iload_n 2, 1), (12, .i2l, 1), (13, .lconst 0, 1), (14, .ldc2_w 238, 3), (17, .invokestatic 56, 3), (20, .ifCond .eq 13, 3), (23, .aload_n 0, 1), (24, .iload_n 1, 1), (25, .iconst (-1), 1), (26, .iload_n 2, 1), (27, .invokevirtual 240, 3), (30, .goto 5, 3), (33, .bipush (-3), 2), (35, .ireturn, 1)] : List (Nat × Instr × Nat)), decode cX9_paid q.1 = .ok q.2 := by decide +kernel
theorem dt_X9_forget : ∀ q ∈ ([(0, .aload_n 0, 1), (1, .getfield 151, 3), (4, .istore_n 1, 1), (5, .aload_n 0, 1), (6, .iconst 0, 1), (7, .putfield 151, 3), (10, .iload_n 1, 1), (11, .ireturn, 1)] : List (Nat × Instr × Nat)), decode cX9_forget q.1 = .ok q.2 := by decide +kernel
theorem dt_X9_canBe : ∀ q ∈ ([(0, .iconst 1, 1), (1, .istore_n 2, 1), (2, .iconst 0, 1), (3, .istore_n 3, 1), (4, .iload_n 3, 1), (5, .aload_n 0, 1), (6, .getfield 151, 3), (9, .if_icmp .ge 99, 3), (12, .iload_n 1, 1), (13, .aload_n 0, 1), (14, .getfield 51, 3), (17, .iconst 3, 1), (18, .iload_n 3, 1), (19, .imul, 1), (20, .iaload, 1), (21, .invokestatic 162, 3), (24, .istore 4, 2), (26, .aload_n 0, 1), (27, .getfield 51, 3), (30, .iconst 3, 1), (31, .iload_n 3, 1), (32, .imul, 1), (33, .iconst 1, 1), (34, .iadd, 1), (35, .iaload, 1), (36, .istore 5, 2), (38, .iload 5, 2), (40, .iconst (-1), 1), (41, .if_icmp .ne 22, 3), (44, .iload 4, 2), (46, .bipush 9, 2), (48, .if_icmp .ge 11, 3), (51, .bipush 9, 2), (53, .iload 4, 2), (55, .isub, 1), (56, .goto 19, 3), (59, .iconst 0, 1), (60, .goto 15, 3), (63, .iload 4, 2), (65, .iload 5, 2), (67, .if_icmp .gt 7, 3), (70, .iconst 1, 1), (71, .goto 4, 3), (74, .iconst 0, 1), (75, .istore 6, 2), (77, .iload_n 2, 1), (78, .ifCond .eq 22, 3), (81, .iload 6, 2), (83, .aload_n 0, 1), (84, .getfield 51, 3), (87, .iconst 3, 1), (88, .iload_n 3, 1), (89, .imul, 1), (90, .iconst 2, 1), (91, .iadd, 1), (92, .iaload, 1), (93, .if_icmp .ne 7, 3), (96, .iconst 1, 1), (97, .goto 4, 3), (100, .iconst 0, 1), (101, .istore_n 2, 1), (102, .iinc 3 1, 3), (105, .goto (-101), 3), (108, .iload_n 2, 1), (109, .ireturn, 1)] : List (Nat × Instr × Nat)), decode cX9_canBe q.1 = .ok q.2 := by decide +kernel
theorem dt_X9_placesOf : ∀ q ∈ ([(0, .iconst 0, 1), (1, .istore_n 1, 1), (2, .iconst 0, 1), (3, .istore_n 2, 1), (4, .iload_n 2, 1), (5, .aload_n 0, 1), (6, .getfield 23, 3), (9, .if_icmp .ge 27, 3), (12, .iload_n 1, 1), (13, .aload_n 0, 1), (14, .iload_n 2, 1), (15, .invokevirtual 243, 3), (18, .ifCond .eq 9, 3), (21, .iconst 1, 1), (22, .iload_n 2, 1), (23, .ishl, 1), (24, .goto 4, 3), (27, .iconst 0, 1), (28, .ior, 1), (29, .istore_n 1, 1), (30, .iinc 2 1, 3), (33, .goto (-29), 3), (36, .iload_n 1, 1), (37, .ireturn, 1)] : List (Nat × Instr × Nat)), decode cX9_placesOf q.1 = .ok q.2 := by decide +kernel
theorem dt_X9_where : ∀ q ∈ ([(0, .aload_n 0, 1), (1, .invokevirtual 246, 3), (4, .ireturn, 1)] : List (Nat × Instr × Nat)), decode cX9_where q.1 = .ok q.2 := by decide +kernel
theorem dt_X9_next : ∀ q ∈ ([(0, .iload_n 1, 1), (1, .i2l, 1), (2, .lconst 0, 1), (3, .ldc2_w 238, 3), (6, .invokestatic 56, 3), (9, .ifCond .ne 6, 3), (12, .bipush (-3), 2), (14, .ireturn, 1), (15, .aload_n 0, 1), (16, .invokevirtual 246, 3), (19, .istore_n 2, 1), (20, .iconst (-1), 1), (21, .istore_n 3, 1), (22, .bipush 99, 2), (24, .istore 4, 2), (26, .iconst 0, 1), (27, .istore 5, 2), (29, .iload 5, 2), (31, .aload_n 0, 1), (32, .getfield 23, 3), (35, .if_icmp .ge 120, 3), (38, .iload_n 2, 1), (39, .ifCond .eq 116, 3), (42, .iconst 0, 1), (43, .istore 6, 2), (45, .iconst 0, 1), (46, .istore 7, 2), (48, .iload 7, 2), (50, .aload_n 0, 1), (51, .getfield 23, 3), (54, .if_icmp .ge 39, 3), (57, .iload 6, 2), (59, .iload_n 2, 1), (60, .iload 7, 2), (62, .invokestatic 159, 3), (65, .ifCond .eq 18, 3), (68, .iload 5, 2), (70, .iload 7, 2), (72, .invokestatic 162, 3), (75, .iload_n 1, 1), (76, .if_icmp .gt 7, 3), (79, .iconst 1, 1), (80, .goto 4, 3), (83, .iconst 0, 1), (84, .iadd, 1), (85, .istore 6, 2), (87, .iinc 7 1, 3), (90, .goto (-42), 3), (93, .iload 6, 2), (95, .iload_n 2, 1), (96, .invokestatic 209, 3), (99, .iload 6, 2), (101, .isub, 1), (102, .if_icmp .le 8, 3), (105, .iload 6, 2), (107, .goto 10, 3), (110, .iload_n 2, 1), (111, .invokestatic 209, 3), (114, .iload 6, 2), (116, .isub, 1), (117, .istore 7, 2), (119, .iload 7, 2), (121, .iload 4, 2), (123, .if_icmp .ge 8, 3), (126, .iload 5, 2), (128, .goto 4, 3), (131, .iload_n 3, 1), (132, .istore_n 3, 1), (133, .iload 7, 2), (135, .iload 4, 2), (137, .if_icmp .ge 8, 3), (140, .iload 7, 2), (142, .goto 5, 3), (145, .iload 4, 2), (147, .istore 4, 2), (149, .iinc 5 1, 3), (152, .goto (-123), 3), (155, .iload_n 3, 1), (156, .ireturn, 1)] : List (Nat × Instr × Nat)), decode cX9_next q.1 = .ok q.2 := by decide +kernel
theorem dt_X9_count : ∀ q ∈ ([(0, .iconst 0, 1), (1, .istore_n 2, 1), (2, .iconst 0, 1), (3, .istore_n 3, 1), (4, .iload_n 3, 1), (5, .aload_n 0, 1), (6, .getfield 127, 3), (9, .if_icmp .ge 30, 3), (12, .iload_n 2, 1), (13, .aload_n 0, 1), (14, .getfield 7, 3), (17, .iload_n 3, 1), (18, .iaload, 1), (19, .bipush 100, 2), (21, .if_icmp .ne 9, 3), (24, .iconst 1, 1), (25, .iload_n 3, 1), (26, .ishl, 1), (27, .goto 4, 3), (30, .iconst 0, 1), (31, .ior, 1), (32, .istore_n 2, 1), (33, .iinc 3 1, 3), (36, .goto (-32), 3), (39, .iload_n 1, 1), (40, .tableswitch 91 0 7 #[48, 53, 58, 63, 71, 79, 81, 86], 48), (88, .aload_n 0, 1), (89, .getfield 23, 3), (92, .ireturn, 1), (93, .aload_n 0, 1), (94, .getfield 127, 3), (97, .ireturn, 1), (98, .aload_n 0, 1), (99, .getfield 130, 3), (102, .ireturn, 1), (103, .aload_n 0, 1), (104, .getfield 7, 3), (107, .bipush 18, 2), (109, .iaload, 1), (110, .ireturn, 1), (111, .aload_n 0, 1), (112, .getfield 7, 3), (115, .bipush 6, 2), (117, .iaload, 1), (118, .ireturn, 1), (119, .iload_n 2, 1), (120, .ireturn, 1), (121, .aload_n 0, 1), (122, .getfield 151, 3), (125, .ireturn, 1), (126, .aload_n 0, 1), (127, .getfield 60, 3), (130, .ireturn, 1), (131, .bipush (-3), 2), (133, .ireturn, 1)] : List (Nat × Instr × Nat)), decode cX9_count q.1 = .ok q.2 := by decide +kernel
end
section
theorem dt_L_law_0 : ∀ q ∈ ([(0, .new 7, 3), (3, .dup, 1), (4, .invokespecial 9, 3), (7, .astore_n 1, 1), (8, .new 10, 3), (11, .dup, 1), (12, .invokespecial 12, 3), (15, .astore_n 2, 1), (16, .iconst 0, 1), (17, .istore_n 3, 1), (18, .iload_n 3, 1), (19, .aload_n 0, 1), (20, .arraylength, 1), (21, .iconst 5, 1), (22, .isub, 1), (23, .if_icmp .gt 837, 3), (26, .aload_n 0, 1), (27, .iload_n 3, 1), (28, .iaload, 1), (29, .bipush 31, 2), (31, .iand, 1), (32, .tableswitch 822 0 24 #[116, 179, 192, 205, 218, 241, 274, 307, 340, 363, 386, 409, 432, 475, 498, 521, 544, 587, 641, 674, 717, 750, 763, 776, 799], 116), (148, .aload_n 1, 1), (149, .aload_n 0, 1), (150, .iload_n 3, 1), (151, .iconst 1, 1), (152, .iadd, 1), (153, .iaload, 1), (154, .i2l, 1), (155, .bipush 32, 2), (157, .lshl, 1), (158, .aload_n 0, 1), (159, .iload_n 3, 1), (160, .iconst 2, 1), (161, .iadd, 1), (162, .iaload, 1), (163, .i2l, 1), (164, .ldc2_w 13, 3), (167, .land, 1), (168, .lor, 1), (169, .aload_n 0, 1), (170, .iload_n 3, 1), (171, .iconst 3, 1), (172, .iadd, 1), (173, .iaload, 1), (174, .invokevirtual 15, 3), (177, .aload_n 2, 1), (178, .aload_n 0, 1), (179, .iload_n 3, 1), (180, .iconst 1, 1), (181, .iadd, 1), (182, .iaload, 1), (183, .i2l, 1), (184, .bipush 32, 2), (186, .lshl, 1), (187, .aload_n 0, 1), (188, .iload_n 3, 1), (189, .iconst 2, 1), (190, .iadd, 1), (191, .iaload, 1), (192, .i2l, 1), (193, .ldc2_w 13, 3), (196, .land, 1), (197, .lor, 1), (198, .aload_n 0, 1), (199, .iload_n 3, 1), (200, .iconst 3, 1), (201, .iadd, 1), (202, .iaload, 1), (203, .invokevirtual 19, 3), (206, .if_icmp .eq 648, 3), (209, .iconst 0, 1), (210, .ireturn, 1), (211, .aload_n 1, 1), (212, .invokevirtual 20, 3), (215, .aload_n 2, 1), (216, .invokevirtual 24, 3), (219, .if_icmp .eq 635, 3), (222, .iconst 0, 1), (223, .ireturn, 1), (224, .aload_n 1, 1), (225, .invokevirtual 25, 3), (228, .aload_n 2, 1), (229, .invokevirtual 28, 3), (232, .if_icmp .eq 622, 3), (235, .iconst 0, 1), (236, .ireturn, 1), (237, .aload_n 1, 1), (238, .invokevirtual 29, 3), (241, .aload_n 2, 1), (242, .invokevirtual 32, 3), (245, .if_icmp .eq 609, 3), (248, .iconst 0, 1), (249, .ireturn, 1), (250, .aload_n 1, 1), (251, .aload_n 0, 1), (252, .iload_n 3, 1), (253, .iconst 1, 1), (254, .iadd, 1), (255, .iaload, 1)] : List (Nat × Instr × Nat)), decode cL_law q.1 = .ok q.2 := by decide +kernel
theorem dt_L_law_1 : ∀ q ∈ ([(256, .invokevirtual 33, 3), (259, .aload_n 2, 1), (260, .aload_n 0, 1), (261, .iload_n 3, 1), (262, .iconst 1, 1), (263, .iadd, 1), (264, .iaload, 1), (265, .invokevirtual 37, 3), (268, .if_icmp .eq 586, 3), (271, .iconst 0, 1), (272, .ireturn, 1), (273, .aload_n 1, 1), (274, .aload_n 0, 1), (275, .iload_n 3, 1), (276, .iconst 1, 1), (277, .iadd, 1), (278, .iaload, 1), (279, .aload_n 0, 1), (280, .iload_n 3, 1), (281, .iconst 2, 1), (282, .iadd, 1), (283, .iaload, 1), (284, .invokevirtual 38, 3), (287, .aload_n 2, 1), (288, .aload_n 0, 1), (289, .iload_n 3, 1), (290, .iconst 1, 1), (291, .iadd, 1), (292, .iaload, 1), (293, .aload_n 0, 1), (294, .iload_n 3, 1), (295, .iconst 2, 1), (296, .iadd, 1), (297, .iaload, 1), (298, .invokevirtual 42, 3), (301, .if_icmp .eq 553, 3), (304, .iconst 0, 1), (305, .ireturn, 1), (306, .aload_n 1, 1), (307, .aload_n 0, 1), (308, .iload_n 3, 1), (309, .iconst 1, 1), (310, .iadd, 1), (311, .iaload, 1), (312, .aload_n 0, 1), (313, .iload_n 3, 1), (314, .iconst 2, 1), (315, .iadd, 1), (316, .iaload, 1), (317, .invokevirtual 43, 3), (320, .aload_n 2, 1), (321, .aload_n 0, 1), (322, .iload_n 3, 1), (323, .iconst 1, 1), (324, .iadd, 1), (325, .iaload, 1), (326, .aload_n 0, 1), (327, .iload_n 3, 1), (328, .iconst 2, 1), (329, .iadd, 1), (330, .iaload, 1), (331, .invokevirtual 46, 3), (334, .if_icmp .eq 520, 3), (337, .iconst 0, 1), (338, .ireturn, 1), (339, .aload_n 1, 1), (340, .aload_n 0, 1), (341, .iload_n 3, 1), (342, .iconst 1, 1), (343, .iadd, 1), (344, .iaload, 1), (345, .aload_n 0, 1), (346, .iload_n 3, 1), (347, .iconst 2, 1), (348, .iadd, 1), (349, .iaload, 1), (350, .invokevirtual 47, 3), (353, .aload_n 2, 1), (354, .aload_n 0, 1), (355, .iload_n 3, 1), (356, .iconst 1, 1), (357, .iadd, 1), (358, .iaload, 1), (359, .aload_n 0, 1), (360, .iload_n 3, 1), (361, .iconst 2, 1), (362, .iadd, 1), (363, .iaload, 1), (364, .invokevirtual 50, 3), (367, .if_icmp .eq 487, 3), (370, .iconst 0, 1), (371, .ireturn, 1), (372, .aload_n 1, 1), (373, .aload_n 0, 1), (374, .iload_n 3, 1), (375, .iconst 1, 1), (376, .iadd, 1), (377, .iaload, 1), (378, .invokevirtual 51, 3), (381, .aload_n 2, 1)] : List (Nat × Instr × Nat)), decode cL_law q.1 = .ok q.2 := by decide +kernel
theorem dt_L_law_2 : ∀ q ∈ ([(382, .aload_n 0, 1), (383, .iload_n 3, 1), (384, .iconst 1, 1), (385, .iadd, 1), (386, .iaload, 1), (387, .invokevirtual 54, 3), (390, .if_icmp .eq 464, 3), (393, .iconst 0, 1), (394, .ireturn, 1), (395, .aload_n 1, 1), (396, .aload_n 0, 1), (397, .iload_n 3, 1), (398, .iconst 1, 1), (399, .iadd, 1), (400, .iaload, 1), (401, .invokevirtual 55, 3), (404, .aload_n 2, 1), (405, .aload_n 0, 1), (406, .iload_n 3, 1), (407, .iconst 1, 1), (408, .iadd, 1), (409, .iaload, 1), (410, .invokevirtual 58, 3), (413, .if_icmp .eq 441, 3), (416, .iconst 0, 1), (417, .ireturn, 1), (418, .aload_n 1, 1), (419, .aload_n 0, 1), (420, .iload_n 3, 1), (421, .iconst 1, 1), (422, .iadd, 1), (423, .iaload, 1), (424, .invokevirtual 59, 3), (427, .aload_n 2, 1), (428, .aload_n 0, 1), (429, .iload_n 3, 1), (430, .iconst 1, 1), (431, .iadd, 1), (432, .iaload, 1), (433, .invokevirtual 62, 3), (436, .if_icmp .eq 418, 3), (439, .iconst 0, 1), (440, .ireturn, 1), (441, .aload_n 1, 1), (442, .aload_n 0, 1), (443, .iload_n 3, 1), (444, .iconst 1, 1), (445, .iadd, 1), (446, .iaload, 1), (447, .invokevirtual 63, 3), (450, .aload_n 2, 1), (451, .aload_n 0, 1), (452, .iload_n 3, 1), (453, .iconst 1, 1), (454, .iadd, 1), (455, .iaload, 1), (456, .invokevirtual 66, 3), (459, .if_icmp .eq 395, 3), (462, .iconst 0, 1), (463, .ireturn, 1), (464, .aload_n 1, 1), (465, .aload_n 0, 1), (466, .iload_n 3, 1), (467, .iconst 1, 1), (468, .iadd, 1), (469, .iaload, 1), (470, .aload_n 0, 1), (471, .iload_n 3, 1), (472, .iconst 2, 1), (473, .iadd, 1), (474, .iaload, 1), (475, .aload_n 0, 1), (476, .iload_n 3, 1), (477, .iconst 3, 1), (478, .iadd, 1), (479, .iaload, 1), (480, .invokevirtual 67, 3), (483, .aload_n 2, 1), (484, .aload_n 0, 1), (485, .iload_n 3, 1), (486, .iconst 1, 1), (487, .iadd, 1), (488, .iaload, 1), (489, .aload_n 0, 1), (490, .iload_n 3, 1), (491, .iconst 2, 1), (492, .iadd, 1), (493, .iaload, 1), (494, .aload_n 0, 1), (495, .iload_n 3, 1), (496, .iconst 3, 1), (497, .iadd, 1), (498, .iaload, 1), (499, .invokevirtual 71, 3), (502, .if_icmp .eq 352, 3), (505, .iconst 0, 1), (506, .ireturn, 1), (507, .aload_n 1, 1), (508, .aload_n 0, 1), (509, .iload_n 3, 1)] : List (Nat × Instr × Nat)), decode cL_law q.1 = .ok q.2 := by decide +kernel
theorem dt_L_law_3 : ∀ q ∈ ([(510, .iconst 1, 1), (511, .iadd, 1), (512, .iaload, 1), (513, .invokevirtual 72, 3), (516, .aload_n 2, 1), (517, .aload_n 0, 1), (518, .iload_n 3, 1), (519, .iconst 1, 1), (520, .iadd, 1), (521, .iaload, 1), (522, .invokevirtual 75, 3), (525, .if_icmp .eq 329, 3), (528, .iconst 0, 1), (529, .ireturn, 1), (530, .aload_n 1, 1), (531, .aload_n 0, 1), (532, .iload_n 3, 1), (533, .iconst 1, 1), (534, .iadd, 1), (535, .iaload, 1), (536, .invokevirtual 76, 3), (539, .aload_n 2, 1), (540, .aload_n 0, 1), (541, .iload_n 3, 1), (542, .iconst 1, 1), (543, .iadd, 1), (544, .iaload, 1), (545, .invokevirtual 79, 3), (548, .if_icmp .eq 306, 3), (551, .iconst 0, 1), (552, .ireturn, 1), (553, .aload_n 1, 1), (554, .aload_n 0, 1), (555, .iload_n 3, 1), (556, .iconst 1, 1), (557, .iadd, 1), (558, .iaload, 1), (559, .invokevirtual 80, 3), (562, .aload_n 2, 1), (563, .aload_n 0, 1), (564, .iload_n 3, 1), (565, .iconst 1, 1), (566, .iadd, 1), (567, .iaload, 1), (568, .invokevirtual 83, 3), (571, .if_icmp .eq 283, 3), (574, .iconst 0, 1), (575, .ireturn, 1), (576, .aload_n 1, 1), (577, .aload_n 0, 1), (578, .iload_n 3, 1), (579, .iconst 1, 1), (580, .iadd, 1), (581, .iaload, 1), (582, .aload_n 0, 1), (583, .iload_n 3, 1), (584, .iconst 2, 1), (585, .iadd, 1), (586, .iaload, 1), (587, .aload_n 0, 1), (588, .iload_n 3, 1), (589, .iconst 3, 1), (590, .iadd, 1), (591, .iaload, 1), (592, .invokevirtual 84, 3), (595, .aload_n 2, 1), (596, .aload_n 0, 1), (597, .iload_n 3, 1), (598, .iconst 1, 1), (599, .iadd, 1), (600, .iaload, 1), (601, .aload_n 0, 1), (602, .iload_n 3, 1), (603, .iconst 2, 1), (604, .iadd, 1), (605, .iaload, 1), (606, .aload_n 0, 1), (607, .iload_n 3, 1), (608, .iconst 3, 1), (609, .iadd, 1), (610, .iaload, 1), (611, .invokevirtual 87, 3), (614, .if_icmp .eq 240, 3), (617, .iconst 0, 1), (618, .ireturn, 1), (619, .aload_n 1, 1), (620, .aload_n 0, 1), (621, .iload_n 3, 1), (622, .iconst 1, 1), (623, .iadd, 1), (624, .iaload, 1), (625, .aload_n 0, 1), (626, .iload_n 3, 1), (627, .iconst 2, 1), (628, .iadd, 1), (629, .iaload, 1), (630, .aload_n 0, 1), (631, .iload_n 3, 1), (632, .iconst 3, 1), (633, .iadd, 1)] : List (Nat × Instr × Nat)), decode cL_law q.1 = .ok q.2 := by decide +kernel
theorem dt_L_law_4 : ∀ q ∈ ([(634, .iaload, 1), (635, .aload_n 0, 1), (636, .iload_n 3, 1), (637, .iconst 4, 1), (638, .iadd, 1), (639, .iaload, 1), (640, .invokevirtual 88, 3), (643, .aload_n 2, 1), (644, .aload_n 0, 1), (645, .iload_n 3, 1), (646, .iconst 1, 1), (647, .iadd, 1), (648, .iaload, 1), (649, .aload_n 0, 1), (650, .iload_n 3, 1), (651, .iconst 2, 1), (652, .iadd, 1), (653, .iaload, 1), (654, .aload_n 0, 1), (655, .iload_n 3, 1), (656, .iconst 3, 1), (657, .iadd, 1), (658, .iaload, 1), (659, .aload_n 0, 1), (660, .iload_n 3, 1), (661, .iconst 4, 1), (662, .iadd, 1), (663, .iaload, 1), (664, .invokevirtual 92, 3), (667, .lcmp, 1), (668, .ifCond .eq 186, 3), (671, .iconst 0, 1), (672, .ireturn, 1), (673, .aload_n 1, 1), (674, .aload_n 0, 1), (675, .iload_n 3, 1), (676, .iconst 1, 1), (677, .iadd, 1), (678, .iaload, 1), (679, .aload_n 0, 1), (680, .iload_n 3, 1), (681, .iconst 2, 1), (682, .iadd, 1), (683, .iaload, 1), (684, .invokevirtual 93, 3), (687, .aload_n 2, 1), (688, .aload_n 0, 1), (689, .iload_n 3, 1), (690, .iconst 1, 1), (691, .iadd, 1), (692, .iaload, 1), (693, .aload_n 0, 1), (694, .iload_n 3, 1), (695, .iconst 2, 1), (696, .iadd, 1), (697, .iaload, 1), (698, .invokevirtual 96, 3), (701, .if_icmp .eq 153, 3), (704, .iconst 0, 1), (705, .ireturn, 1), (706, .aload_n 1, 1), (707, .aload_n 0, 1), (708, .iload_n 3, 1), (709, .iconst 1, 1), (710, .iadd, 1), (711, .iaload, 1), (712, .aload_n 0, 1), (713, .iload_n 3, 1), (714, .iconst 2, 1), (715, .iadd, 1), (716, .iaload, 1), (717, .aload_n 0, 1), (718, .iload_n 3, 1), (719, .iconst 3, 1), (720, .iadd, 1), (721, .iaload, 1), (722, .invokevirtual 97, 3), (725, .aload_n 2, 1), (726, .aload_n 0, 1), (727, .iload_n 3, 1), (728, .iconst 1, 1), (729, .iadd, 1), (730, .iaload, 1), (731, .aload_n 0, 1), (732, .iload_n 3, 1), (733, .iconst 2, 1), (734, .iadd, 1), (735, .iaload, 1), (736, .aload_n 0, 1), (737, .iload_n 3, 1), (738, .iconst 3, 1), (739, .iadd, 1), (740, .iaload, 1), (741, .invokevirtual 100, 3), (744, .if_icmp .eq 110, 3), (747, .iconst 0, 1), (748, .ireturn, 1), (749, .aload_n 1, 1), (750, .aload_n 0, 1), (751, .iload_n 3, 1)] : List (Nat × Instr × Nat)), decode cL_law q.1 = .ok q.2 := by decide +kernel
theorem dt_L_law_5 : ∀ q ∈ ([(752, .iconst 1, 1), (753, .iadd, 1), (754, .iaload, 1), (755, .aload_n 0, 1), (756, .iload_n 3, 1), (757, .iconst 2, 1), (758, .iadd, 1), (759, .iaload, 1), (760, .invokevirtual 101, 3), (763, .aload_n 2, 1), (764, .aload_n 0, 1), (765, .iload_n 3, 1), (766, .iconst 1, 1), (767, .iadd, 1), (768, .iaload, 1), (769, .aload_n 0, 1), (770, .iload_n 3, 1), (771, .iconst 2, 1), (772, .iadd, 1), (773, .iaload, 1), (774, .invokevirtual 104, 3), (777, .if_icmp .eq 77, 3), (780, .iconst 0, 1), (781, .ireturn, 1), (782, .aload_n 1, 1), (783, .invokevirtual 105, 3), (786, .aload_n 2, 1), (787, .invokevirtual 108, 3), (790, .if_icmp .eq 64, 3), (793, .iconst 0, 1), (794, .ireturn, 1), (795, .aload_n 1, 1), (796, .invokevirtual 109, 3), (799, .aload_n 2, 1), (800, .invokevirtual 112, 3), (803, .if_icmp .eq 51, 3), (806, .iconst 0, 1), (807, .ireturn, 1), (808, .aload_n 1, 1), (809, .aload_n 0, 1), (810, .iload_n 3, 1), (811, .iconst 1, 1), (812, .iadd, 1), (813, .iaload, 1), (814, .invokevirtual 113, 3), (817, .aload_n 2, 1), (818, .aload_n 0, 1), (819, .iload_n 3, 1), (820, .iconst 1, 1), (821, .iadd, 1), (822, .iaload, 1), (823, .invokevirtual 116, 3), (826, .if_icmp .eq 28, 3), (829, .iconst 0, 1), (830, .ireturn, 1), (831, .aload_n 1, 1), (832, .aload_n 0, 1), (833, .iload_n 3, 1), (834, .iconst 1, 1), (835, .iadd, 1), (836, .iaload, 1), (837, .invokevirtual 117, 3), (840, .aload_n 2, 1), (841, .aload_n 0, 1), (842, .iload_n 3, 1), (843, .iconst 1, 1), (844, .iadd, 1), (845, .iaload, 1), (846, .invokevirtual 120, 3), (849, .if_icmp .eq 5, 3), (852, .iconst 0, 1), (853, .ireturn, 1), (854, .iinc 3 5, 3), (857, .goto (-839), 3), (860, .iconst 1, 1), (861, .ireturn, 1)] : List (Nat × Instr × Nat)), decode cL_law q.1 = .ok q.2 := by decide +kernel
end
section
/-! ===== the constant part of every contract: links of nest mates, the nine String constants, two statics of the JDK ===== -/
abbrev nwl : List (String × Nat × MethodName) := [(RX8, 9, yX6_init), (RX8, 12, yX7_init), (RX8, 74, yX5_init), (RX8, 81, yX0_init), (RX4, 120, yX8_isWithin), (RX3, 85, yX8_hasBit), (RX3, 104, yX8_reaches), (RX3, 139, yX8_orangesFor), (RX7, 68, yX8_isSetOf), (RX1, 63, yX8_hasBit), (RX2, 59, yX8_hasBit), (RX0, 21, yX8_reaches), (RX0, 25, yX8_orangesFor)]
abbrev sIx : List Nat := [45, 54, 59, 64, 71, 84, 86, 88, 90]
abbrev sTx : List String := ["dike", "tide", "seep", "dry", "school", "plain", "tired", "hoax", "deaf"]
abbrev sByt : List (List Int32) := [[100, 105, 107, 101], [116, 105, 100, 101], [115, 101, 101, 112], [100, 114, 121], [115, 99, 104, 111, 111, 108], [112, 108, 97, 105, 110], [116, 105, 114, 101, 100], [104, 111, 97, 120], [100, 101, 97, 102]]
abbrev sLen : List Nat := [4, 4, 4, 3, 6, 5, 5, 4, 4]
def kX (ad : (Nat → Nat) × (Nat → Nat)) (A : Nat → Prop) (U : State) (H : Heap) : Prop :=
  (∀ q ∈ nwl, va_Nw (.methodLinkNest q.1 q.2.1 q.2.2 "DikeWatch") U) ∧ (∀ i, i < 9 → vk_R RX4 (sIx.getD i 0) (sTx.getD i "") (ad.1 i) U) ∧ vk_S 9 sLen sByt ad.1 ad.2 A U H ∧ va_Z "java/lang/String" "COMPACT_STRINGS" "Z" (.int 1) A U H ∧ va_Zq "jdk/internal/util/Preconditions" "SIOOBE_FORMATTER" "Ljava/util/function/BiFunction;" A U H
theorem kX.use {ad : (Nat → Nat) × (Nat → Nat)} {A B : Nat → Prop} {s U : State} {H : Heap} {locs : List Loc} (h : kX ad A s s.heap) (hS : va_S A s.heap H locs) (hW : s.WarmedH U.vm) (hU : U.heap = H) (hAB : ∀ q, B q → A q) : kX ad B U U.heap := by
  obtain ⟨h1, h2, h3, h4, h5⟩ := h
  rw [hU]
  exact ⟨fun q hq => va_Nw.warmM hW (h1 q hq), fun i hi => (h2 i hi).warm hW, ((vk_S.moved hW.alike h3).kept hS.2.1).narrow hAB, ((va_Z.moved hW.alike h4).kept hS.2.1).narrow hAB, ((va_Zq.moved hW.alike h5).kept hS.2.1).narrow hAB⟩
theorem kX.calling {ad : (Nat → Nat) × (Nat → Nat)} {A : Nat → Prop} {U : State} {g : JFrame} {mk : MethodId} {a : Array Value} (h : kX ad A U U.heap) : kX ad A (U.calling g mk a) (U.calling g mk a).heap := by
  obtain ⟨h1, h2, h3, h4, h5⟩ := h
  exact ⟨fun q hq => va_Nw.same rfl (rfl : U.vm = (U.calling g mk a).vm) (h1 q hq), fun i hi => vk_R.same (rfl : (U.calling g mk a).vm = U.vm) (h2 i hi), vk_S.moved (U := U.calling g mk a) (Vm.Alike.refl U.vm) h3, va_Z.moved (U := U.calling g mk a) (Vm.Alike.refl U.vm) h4, va_Zq.moved (U := U.calling g mk a) (Vm.Alike.refl U.vm) h5⟩
/-! ===== the one form of a contract: a method that makes no cells ===== -/
def kP (D : va_G) (tys : List (ClassId × FieldType)) (ad : (Nat → Nat) × (Nat → Nat)) (av : List Value) (ws : va_W) (sz : Nat) : Array Value → State → Prop :=
  va_Pc av (fun U => U.heap.size = sz ∧ va_P D vwCl ws U.heap ∧ va_K D vwCl tys U ∧ va_D (fun _ => True) ws ∧ kX ad (va_A ws sz) U U.heap)
theorem kP_blind (D : va_G) (tys : List (ClassId × FieldType)) (ad : (Nat → Nat) × (Nat → Nat)) (av : List Value) (ws : va_W) (sz : Nat) : FrameBlind (kP D tys ad av ws sz) := by
  intro a U g mk q
  obtain ⟨q0, q1, qP, qK, qD, qX⟩ := q
  exact ⟨q0, q1, qP, va_K.moved (u := U) (U := U.calling g mk a) (Vm.Alike.refl U.vm) qK, qD, qX.calling⟩
def kQ (D : va_G) (A : Nat → Prop) (rv : Option Value) (ws' : va_W) : Array Value → State → Outcome → State → Prop := fun _ st oc t =>
  (oc = .returned rv ∧ va_P D vwCl ws' t.heap ∧ va_D A ws') ∧ va_F A st t
def kM (l : Launch) (y : MethodName) (w : List Cond) (rm : Room) (D : va_G) (tys : List (ClassId × FieldType)) (ad : (Nat → Nat) × (Nat → Nat)) (av : List Value) (ws : va_W) (rv : Option Value) (ws' : va_W) : Prop :=
  ∀ sz : Nat, Met l y w rm (kP D tys ad av ws sz) (kQ D (va_A ws sz) rv ws') 0 0 (va_A ws sz)
/-- the world inside a body -/
def kW (D : va_G) (A : Nat → Prop) (H0 : Heap) (ws : va_W) (H : Heap) (locs : List Loc) : Prop := va_P D vwCl ws H ∧ va_D A ws ∧ va_S A H0 H locs
/-- what holds all through a body -/
def kC (p : Program) (s : State) (m : MethodId) (args : Array Value) (meth : Method) (c : Code) (cc : ByteArray) (maxL : Nat) (ret : Option FieldType) (own : String) (D : va_G) (tys : List (ClassId × FieldType)) (ad : (Nat → Nat) × (Nat → Nat)) (A : Nat → Prop) : Prop :=
  p.tables.exec = Jvm.exec ∧ c.code = cc ∧ c.maxLocals = maxL ∧ meth.sig.returnType = ret ∧ meth.locks = false ∧ s.vm.findClass own = some m.cls ∧ (∀ w ∈ W0, w.before args s = true) ∧ va_K D vwCl tys s ∧ kX ad A s s.heap ∧ ∀ q : Nat, s.heap.size ≤ q → A q
/-- a body's end -/
def kZ (below : List Frame) (D : va_G) (A : Nat → Prop) (rv : Option Value) (ws' : va_W) (args : Array Value) (s : State) : State → Prop := MQ below (kQ D A rv ws') args s 0 0 A
theorem kStart {l : Launch} {y : MethodName} {rm : Room} {D : va_G} {tys : List (ClassId × FieldType)} {ad : (Nat → Nat) × (Nat → Nat)} {av : List Value} {ws : va_W} {rv : Option Value} {ws' : va_W} {cc : ByteArray} {maxL : Nat} {ret : Option FieldType} {lv : List (Nat × Value)} {own : String}
    (hy : plainName y.cls = true) (ho : y.cls = own) (hn : (lg_sl av).length ≤ maxL) (hlv : lv_args 0 av = lv)
    (body : ∀ (p : Program) (e : Env) (s : State) (m : MethodId) (args : Array Value) (below : List Frame) (meth : Method) (c : Code) (A : Nat → Prop) (Q : State → Prop) (ls : Array Slot), Q = kZ below D A rv ws' args s → kC p s m args meth c cc maxL ret own D tys ad A → p.tables.exec = Jvm.exec → c.code = cc → kW D A s.heap ws s.heap [] → lv_has ls maxL lv →
      W p l e rm s m args below meth c s.heap [] 0 0 Q (F0 m 0 ls [])) : kM l y (Cond.code y cc maxL ret :: W0) rm D tys ad av ws rv ws' := by
  intro sz
  refine Met.ofW (cc := cc) (maxL := maxL) (ret := ret) hy rfl ?_
  intro p e s m args below meth c s₁ B hml hv
  obtain ⟨rfl, hsz, hP, hK, hD0, hX⟩ := hv
  subst hsz
  have hl := lv_entry av (n := maxL) hn
  rw [lg_entry_eq]
  rw [hlv] at hl
  have hts := atoms_spec (ws := Cond.code y cc maxL ret :: W0) B.pre
  exact body p e s m _ below meth c (va_A ws s.heap.size) _ _ rfl ⟨B.exec, B.bytes, hml, B.returns, B.notSynchronized, by rw [← ho]; exact findClass_of_methodNamed B.named, fun w h => hts w (List.mem_cons_of_mem _ h), hK, hX, fun q h => Or.inr h⟩ B.exec B.bytes ⟨hP, hD0.self, va_S.rf⟩ hl
section KR
variable {p : Program} {l : Launch} {e : Env} {R : Room} {s : State} {m : MethodId} {args : Array Value} {below : List Frame} {meth : Method} {c : Code} {H : Heap} {locs : List Loc} {cells slots : Nat} {Q : State → Prop}
variable {cc : ByteArray} {pc : Nat} {ls : Array Slot} {rest : List Value} {D : va_G} {A : Nat → Prop} {a : Nat} {tys : List (ClassId × FieldType)} {ad : (Nat → Nat) × (Nat → Nat)} {ws ws' : va_W} {H0 : Heap} {maxL : Nat} {ret : Option FieldType} {own : String}
theorem kRetI {v : Int32} (hQ : Q = kZ below D A (some (.int v)) ws args s) (C : kC p s m args meth c cc maxL (some .int) own D tys ad A) (hw : kW D A s.heap ws H locs) (hdg : decode cc pc = .ok (.ireturn, 1)) : W p l e R s m args below meth c H locs 0 0 Q (F0 m pc ls [.int v]) := by
  subst hQ
  exact W.iret C.1 C.2.1 C.2.2.2.1 (fun t ht hW => ⟨⟨rfl, by rw [ht]; exact hw.1, hw.2.1⟩, hw.2.2.F ht⟩) hw.2.2.2.2 hdg C.2.2.2.2.1
theorem kRetZ {v : Int32} {ty : FieldType} (hQ : Q = kZ below D A (some (.int v)) ws args s) (C : kC p s m args meth c cc maxL (some ty) own D tys ad A) (hn : narrow ty (.int v) = .int v) (hw : kW D A s.heap ws H locs) (hdg : decode cc pc = .ok (.ireturn, 1)) : W p l e R s m args below meth c H locs 0 0 Q (F0 m pc ls [.int v]) := by
  subst hQ
  exact W.zret C.1 C.2.1 C.2.2.2.1 hn (fun t ht hW => ⟨⟨rfl, by rw [ht]; exact hw.1, hw.2.1⟩, hw.2.2.F ht⟩) hw.2.2.2.2 hdg C.2.2.2.2.1
theorem kRetL {v : Int64} (hQ : Q = kZ below D A (some (.long v)) ws args s) (C : kC p s m args meth c cc maxL (some .long) own D tys ad A) (hw : kW D A s.heap ws H locs) (hdg : decode cc pc = .ok (.lreturn, 1)) : W p l e R s m args below meth c H locs 0 0 Q (F0 m pc ls [.long v]) := by
  subst hQ
  exact W.lret C.1 C.2.1 C.2.2.2.1 (fun t ht hW => ⟨⟨rfl, by rw [ht]; exact hw.1, hw.2.1⟩, hw.2.2.F ht⟩) hw.2.2.2.2 hdg C.2.2.2.2.1
theorem kRetV (hQ : Q = kZ below D A none ws args s) (C : kC p s m args meth c cc maxL none own D tys ad A) (hw : kW D A s.heap ws H locs) (hdg : decode cc pc = .ok (.return_, 1)) : W p l e R s m args below meth c H locs 0 0 Q (F0 m pc ls []) := by
  subst hQ
  exact W.vret C.1 C.2.1 C.2.2.2.1 (fun t ht hW => ⟨⟨rfl, by rw [ht]; exact hw.1, hw.2.1⟩, hw.2.2.F ht⟩) hw.2.2.2.2 hdg C.2.2.2.2.1
theorem kRetA {v : Nat} {n : String} (hQ : Q = kZ below D A (some (.ref v)) ws args s) (C : kC p s m args meth c cc maxL (some (.object n)) own D tys ad A) (hw : kW D A s.heap ws H locs) (hdg : decode cc pc = .ok (.areturn, 1)) : W p l e R s m args below meth c H locs 0 0 Q (F0 m pc ls [.ref v]) := by
  subst hQ
  exact W.aret C.1 C.2.1 C.2.2.2.1 (Or.inl ⟨n, rfl⟩) (Or.inr ⟨v, rfl⟩) (fun t ht hW => ⟨⟨rfl, by rw [ht]; exact hw.1, hw.2.1⟩, hw.2.2.F ht⟩) hw.2.2.2.2 hdg C.2.2.2.2.1
/-- names for values on the stack -/
theorem kNm {v x : Value} (h : v = x) (k : W p l e R s m args below meth c H locs cells slots Q (F0 m pc ls (v :: rest))) : W p l e R s m args below meth c H locs cells slots Q (F0 m pc ls (x :: rest)) := h ▸ k
theorem kNmI {v x : Int32} (h : v = x) (k : W p l e R s m args below meth c H locs cells slots Q (F0 m pc ls (.int v :: rest))) : W p l e R s m args below meth c H locs cells slots Q (F0 m pc ls (.int x :: rest)) := h ▸ k
theorem kNmL {v x : Int64} (h : v = x) (k : W p l e R s m args below meth c H locs cells slots Q (F0 m pc ls (.long v :: rest))) : W p l e R s m args below meth c H locs cells slots Q (F0 m pc ls (.long x :: rest)) := h ▸ k
/-- fields -/
theorem kGet {ref Cn : String} {T : u_T} {N ci index : Nat} (C : kC p s m args meth c cc maxL ret own D tys ad A) (hin : ∀ w ∈ u_ws Cn T N, w ∈ W0) (hw : kW D A H0 ws H locs) (q0 : Nat) {fs : List Value} (he : ws[q0]? = some (a, .inr (ci, fs))) (hc : vwCl[ci]? = some (Cn, T, N)) (k : Nat) (hk : k < N) (hlink : (Cond.fieldLink own index ref (T k).2.1 (T k).2.2.1).before args s = true) (hsame : (T k).1 = ref) {v : Value} (hv : fs[k]? = some v) (hdg : decode cc pc = .ok (.getfield index, 3))
    (kk : W p l e R s m args below meth c H locs cells slots Q (F0 m (pc + 3) ls (v :: rest))) : W p l e R s m args below meth c H locs cells slots Q (F0 m pc ls (.ref a :: rest)) := by
  subst hsame
  exact va_get C.1 C.2.1 C.2.2.2.2.2.2.1 hin C.2.2.2.2.2.1 C.2.2.2.2.2.2.2.1 hw.1 q0 he hc k hk hlink (fun _ h => h) hv hdg kk
theorem kPut {ref Cn : String} {T : u_T} {N ci index : Nat} (C : kC p s m args meth c cc maxL ret own D tys ad A) (hin : ∀ w ∈ u_ws Cn T N, w ∈ W0) (ty0 : Nat → FieldType) (hty : ∀ k, k < N → parseFieldDescriptor (T k).2.2.1 = some (ty0 k)) (hnm : ∀ a, a < N → ∀ b, b < N → a ≠ b → (T a).2.1 ≠ (T b).2.1) (hw : kW D A H0 ws H locs) (q0 : Nat) {fs : List Value} (he : ws[q0]? = some (a, .inr (ci, fs))) (hc : vwCl[ci]? = some (Cn, T, N)) (k : Nat) (hk : k < N) (hlink : (Cond.fieldLink own index ref (T k).2.1 (T k).2.2.1).before args s = true) (hsame : (T k).1 = ref) (hfin : (T k).2.2.2 = false) {v : Value} (hn : narrow (ty0 k) v = v) (hfit : fits (ty0 k) v = true) (hl : k < fs.length) (hs : ws.set q0 (a, .inr (ci, fs.set k v)) = ws')
    (hdg : decode cc pc = .ok (.putfield index, 3)) (kk : ∀ (H1 : Heap) (locs1 : List Loc), kW D A H0 ws' H1 locs1 → W p l e R s m args below meth c H1 locs1 cells slots Q (F0 m (pc + 3) ls rest)) : W p l e R s m args below meth c H locs cells slots Q (F0 m pc ls (v :: .ref a :: rest)) := by
  subst hsame; subst hs
  exact va_put C.1 C.2.1 C.2.2.2.2.2.2.1 hin ty0 hty hnm C.2.2.2.2.2.1 C.2.2.2.2.2.2.2.1 hw.1 hw.2.1 hw.2.2 q0 he hc k hk hlink (fun _ h => h) hfin (hty k hk) hn hfit hl hdg (fun H1 locs1 a1 a2 a3 => kk H1 locs1 ⟨a1, a2, a3⟩)
/-- arrays -/
theorem kIald (C : kC p s m args meth c cc maxL ret own D tys ad A) (hw : kW D A H0 ws H locs) (q0 t0 : Nat) {cA : ClassId} {n : Nat} {f : Nat → Int32} (ha : ws[q0]? = some (a, .inl (cA, n, .inl f))) (ht : tys[t0]? = some (cA, .int)) {i v : Int32} (hin : vp_in i n) (hv : v = f i.toNatClampNeg) (hdg : decode cc pc = .ok (.iaload, 1))
    (kk : W p l e R s m args below meth c H locs cells slots Q (F0 m (pc + 1) ls (.int v :: rest))) : W p l e R s m args below meth c H locs cells slots Q (F0 m pc ls (.int i :: .ref a :: rest)) := by
  subst hv
  exact va_iald C.1 C.2.1 C.2.2.2.2.2.2.2.1 hw.1 q0 t0 ha ht hin hdg kk
theorem kBald (C : kC p s m args meth c cc maxL ret own D tys ad A) (hw : kW D A H0 ws H locs) (q0 t0 : Nat) {cA : ClassId} {n : Nat} {f : Nat → Int32} (ha : ws[q0]? = some (a, .inl (cA, n, .inl f))) (ht : tys[t0]? = some (cA, .byte)) {i v : Int32} (hin : vp_in i n) (hv : v = f i.toNatClampNeg) (hdg : decode cc pc = .ok (.baload, 1))
    (kk : W p l e R s m args below meth c H locs cells slots Q (F0 m (pc + 1) ls (.int v :: rest))) : W p l e R s m args below meth c H locs cells slots Q (F0 m pc ls (.int i :: .ref a :: rest)) := by
  subst hv
  exact va_bald C.1 C.2.1 C.2.2.2.2.2.2.2.1 hw.1 q0 t0 ha ht hin hdg kk
theorem kZald (C : kC p s m args meth c cc maxL ret own D tys ad A) (hw : kW D A H0 ws H locs) (q0 t0 : Nat) {cA : ClassId} {n : Nat} {f : Nat → Int32} (ha : ws[q0]? = some (a, .inl (cA, n, .inl f))) (ht : tys[t0]? = some (cA, .boolean)) {i v : Int32} (hin : vp_in i n) (hv : v = f i.toNatClampNeg) (hdg : decode cc pc = .ok (.baload, 1))
    (kk : W p l e R s m args below meth c H locs cells slots Q (F0 m (pc + 1) ls (.int v :: rest))) : W p l e R s m args below meth c H locs cells slots Q (F0 m pc ls (.int i :: .ref a :: rest)) := by
  subst hv
  exact va_zald C.1 C.2.1 C.2.2.2.2.2.2.2.1 hw.1 q0 t0 ha ht hin hdg kk
theorem kLald (C : kC p s m args meth c cc maxL ret own D tys ad A) (hw : kW D A H0 ws H locs) (q0 t0 : Nat) {cA : ClassId} {n : Nat} {f : Nat → Int64} (ha : ws[q0]? = some (a, .inl (cA, n, .inr (.inl f)))) (ht : tys[t0]? = some (cA, .long)) {i : Int32} {v : Int64} (hin : vp_in i n) (hv : v = f i.toNatClampNeg) (hdg : decode cc pc = .ok (.laload, 1))
    (kk : W p l e R s m args below meth c H locs cells slots Q (F0 m (pc + 1) ls (.long v :: rest))) : W p l e R s m args below meth c H locs cells slots Q (F0 m pc ls (.int i :: .ref a :: rest)) := by
  subst hv
  exact va_lald C.1 C.2.1 C.2.2.2.2.2.2.2.1 hw.1 q0 t0 ha ht hin hdg kk
theorem kIast (C : kC p s m args meth c cc maxL ret own D tys ad A) (hw : kW D A H0 ws H locs) (q0 t0 : Nat) {cA : ClassId} {n : Nat} {f g : Nat → Int32} (ha : ws[q0]? = some (a, .inl (cA, n, .inl f))) (ht : tys[t0]? = some (cA, .int)) {i x : Int32} (hin : vp_in i n) (hg : g = upd f i.toNatClampNeg x) (hs : ws.set q0 (a, .inl (cA, n, .inl g)) = ws') (hdg : decode cc pc = .ok (.iastore, 1))
    (kk : ∀ (H1 : Heap) (locs1 : List Loc), kW D A H0 ws' H1 locs1 → W p l e R s m args below meth c H1 locs1 cells slots Q (F0 m (pc + 1) ls rest)) : W p l e R s m args below meth c H locs cells slots Q (F0 m pc ls (.int x :: .int i :: .ref a :: rest)) := by
  subst hs; subst hg
  exact va_iast C.1 C.2.1 C.2.2.2.2.2.2.2.1 hw.1 hw.2.1 hw.2.2 q0 t0 ha ht hin hdg (fun H1 locs1 a1 a2 a3 => kk H1 locs1 ⟨a1, a2, a3⟩)
theorem kBast (C : kC p s m args meth c cc maxL ret own D tys ad A) (hw : kW D A H0 ws H locs) (q0 t0 : Nat) {cA : ClassId} {n : Nat} {f g : Nat → Int32} (ha : ws[q0]? = some (a, .inl (cA, n, .inl f))) (ht : tys[t0]? = some (cA, .byte)) {i x : Int32} (hin : vp_in i n) (hg : g = upd f i.toNatClampNeg (vp_nar .byte x)) (hs : ws.set q0 (a, .inl (cA, n, .inl g)) = ws') (hdg : decode cc pc = .ok (.bastore, 1))
    (kk : ∀ (H1 : Heap) (locs1 : List Loc), kW D A H0 ws' H1 locs1 → W p l e R s m args below meth c H1 locs1 cells slots Q (F0 m (pc + 1) ls rest)) : W p l e R s m args below meth c H locs cells slots Q (F0 m pc ls (.int x :: .int i :: .ref a :: rest)) := by
  subst hs; subst hg
  exact va_bast C.1 C.2.1 C.2.2.2.2.2.2.2.1 hw.1 hw.2.1 hw.2.2 q0 t0 ha ht hin hdg (fun H1 locs1 a1 a2 a3 => kk H1 locs1 ⟨a1, a2, a3⟩)
theorem kZast (C : kC p s m args meth c cc maxL ret own D tys ad A) (hw : kW D A H0 ws H locs) (q0 t0 : Nat) {cA : ClassId} {n : Nat} {f g : Nat → Int32} (ha : ws[q0]? = some (a, .inl (cA, n, .inl f))) (ht : tys[t0]? = some (cA, .boolean)) {i x : Int32} (hin : vp_in i n) (hg : g = upd f i.toNatClampNeg (vp_nar .boolean x)) (hs : ws.set q0 (a, .inl (cA, n, .inl g)) = ws') (hdg : decode cc pc = .ok (.bastore, 1))
    (kk : ∀ (H1 : Heap) (locs1 : List Loc), kW D A H0 ws' H1 locs1 → W p l e R s m args below meth c H1 locs1 cells slots Q (F0 m (pc + 1) ls rest)) : W p l e R s m args below meth c H locs cells slots Q (F0 m pc ls (.int x :: .int i :: .ref a :: rest)) := by
  subst hs; subst hg
  exact va_zast C.1 C.2.1 C.2.2.2.2.2.2.2.1 hw.1 hw.2.1 hw.2.2 q0 t0 ha ht hin hdg (fun H1 locs1 a1 a2 a3 => kk H1 locs1 ⟨a1, a2, a3⟩)
theorem kLast (C : kC p s m args meth c cc maxL ret own D tys ad A) (hw : kW D A H0 ws H locs) (q0 t0 : Nat) {cA : ClassId} {n : Nat} {f g : Nat → Int64} (ha : ws[q0]? = some (a, .inl (cA, n, .inr (.inl f)))) (ht : tys[t0]? = some (cA, .long)) {i : Int32} {x : Int64} (hin : vp_in i n) (hg : g = vp_updL f i.toNatClampNeg x) (hs : ws.set q0 (a, .inl (cA, n, .inr (.inl g))) = ws') (hdg : decode cc pc = .ok (.lastore, 1))
    (kk : ∀ (H1 : Heap) (locs1 : List Loc), kW D A H0 ws' H1 locs1 → W p l e R s m args below meth c H1 locs1 cells slots Q (F0 m (pc + 1) ls rest)) : W p l e R s m args below meth c H locs cells slots Q (F0 m pc ls (.long x :: .int i :: .ref a :: rest)) := by
  subst hs; subst hg
  exact va_last C.1 C.2.1 C.2.2.2.2.2.2.2.1 hw.1 hw.2.1 hw.2.2 q0 t0 ha ht hin hdg (fun H1 locs1 a1 a2 a3 => kk H1 locs1 ⟨a1, a2, a3⟩)
theorem kAlen (C : kC p s m args meth c cc maxL ret own D tys ad A) (hw : kW D A H0 ws H locs) (q0 t0 : Nat) {cA : ClassId} {x : vp_A} (ha : ws[q0]? = some (a, .inl (cA, x))) {ty : FieldType} (ht : tys[t0]? = some (cA, ty)) {v : Int32} (hv : Int32.ofNat x.1 = v) (hdg : decode cc pc = .ok (.arraylength, 1))
    (kk : W p l e R s m args below meth c H locs cells slots Q (F0 m (pc + 1) ls (.int v :: rest))) : W p l e R s m args below meth c H locs cells slots Q (F0 m pc ls (.ref a :: rest)) :=
  va_alen C.1 C.2.1 C.2.2.2.2.2.2.2.1 hw.1 q0 t0 ha ht hv hdg kk
theorem kCopyI (C : kC p s m args meth c cc maxL ret own D tys ad A) (hml : ls.size = maxL) {index : Nat} (hlink : (Cond.methodLink own index arraycopyName).before args s = true) (hnat : (Cond.native arraycopyName).before args s = true) (hstat : (Cond.static arraycopyName).before args s = true) (hini : (Cond.initialized "java/lang/System").before args s = true)
    (hw : kW D A H0 ws H locs) (q0 q1 t0 : Nat) {a0 : Nat} {cA : ClassId} {n0 n1 : Nat} {f g g' : Nat → Int32} (ha0 : ws[q0]? = some (a0, .inl (cA, n0, .inl f))) (ha1 : ws[q1]? = some (a, .inl (cA, n1, .inl g))) (ht0 : tys[t0]? = some (cA, .int))
    {n : Int32} (h3 : ¬ n < 0) (h4 : n.toNatClampNeg ≤ n0) (h5 : n.toNatClampNeg ≤ n1) (hg : g' = va_cpy f g 0 0 n.toNatClampNeg) (hs : ws.set q1 (a, .inl (cA, n1, .inl g')) = ws')
    (hframes : 1 ≤ R.frames) (hlocals : (rest.map fun v => v.category).sum + (nativeFrameWords "java/lang/System" "arraycopy" 5 + 11) ≤ R.locals) (hdg : decode cc pc = .ok (.invokestatic index, 3))
    (kk : ∀ (H1 : Heap) (locs1 : List Loc), kW D A H0 ws' H1 locs1 → W p l e R s m args below meth c H1 locs1 cells slots Q (F0 m (pc + 3) ls rest)) : W p l e R s m args below meth c H locs cells slots Q (F0 m pc ls (.int n :: .int 0 :: .ref a :: .int 0 :: .ref a0 :: rest)) := by
  subst hs; subst hg
  exact va_copyi (ty := .int) C.1 C.2.1 (C.2.2.1.trans hml.symm) C.2.2.2.2.2.1 hlink hnat hstat hini C.2.2.2.2.2.2.2.1 hw.1 hw.2.1 hw.2.2 q0 q1 t0 t0 ha0 ha1 ht0 ht0 rfl (by decide) (by decide) h3 (by simpa using h4) (by simpa using h5) (fun i _ => rfl) hframes hlocals hdg (fun H1 locs1 a1 a2 a3 => kk H1 locs1 ⟨a1, a2, a3⟩)
end KR
end
section
/-! ===== calls: the caller's world behind them ===== -/
theorem kFold : ∀ (is : List Nat) (l : va_W) (ws : va_W) (k : Nat) (q : Nat × va_E), is.length = l.length → ((is.zip l).foldl (fun w x => w.set x.1 x.2) ws)[k]? = some q → (∃ j : Nat, is[j]? = some k ∧ l[j]? = some q) ∨ (k ∉ is ∧ ws[k]? = some q)
  | [], l, ws, k, q, _, h => Or.inr ⟨by simp, by simpa using h⟩
  | i :: is, [], ws, k, q, hl, _ => by simp at hl
  | i :: is, x :: l, ws, k, q, hl, h => by
    have hl' : is.length = l.length := by simpa using hl
    rcases kFold is l (ws.set i x) k q hl' (by simpa using h) with ⟨j, h1, h2⟩ | ⟨h1, h2⟩
    · exact Or.inl ⟨j + 1, by simpa using h1, by simpa using h2⟩
    · by_cases hk : k = i
      · subst hk
        have hb : k < ws.length := by
          have := (List.getElem?_eq_some_iff.mp h2).1
          simpa using this
        rw [List.getElem?_set_self hb] at h2
        exact Or.inl ⟨0, by simp, by simpa using h2⟩
      · rw [List.getElem?_set_ne (Ne.symm hk)] at h2
        exact Or.inr ⟨by simp [hk, h1], h2⟩
/-- the places of a part -/
theorem kPick {ws wc : va_W} {is : List Nat} (hC : is.map (fun i => ws[i]?) = wc.map some) (j : Nat) (q : Nat × va_E) (h : wc[j]? = some q) : ∃ i, is[j]? = some i ∧ ws[i]? = some q := by
  have h1 : (is.map (fun i => ws[i]?))[j]? = some (some q) := by rw [hC, List.getElem?_map, h]; rfl
  rw [List.getElem?_map] at h1
  cases hi : is[j]? with
  | none => rw [hi] at h1; cases h1
  | some i => rw [hi] at h1; exact ⟨i, rfl, Option.some.inj h1⟩
theorem kBack {D : va_G} {A : Nat → Prop} {ws wc wc' ws2 : va_W} {H H1 : Heap} {is : List Nat} (hP : va_P D vwCl ws H) (hD : va_D A ws) (hC : is.map (fun i => ws[i]?) = wc.map some) (hsame : wc'.map Prod.fst = wc.map Prod.fst) (h2 : (is.zip wc').foldl (fun w x => w.set x.1 x.2) ws = ws2)
    (hk : ∀ q : Nat, q < H.size → ¬ va_A wc H.size q → H1[q]? = H[q]?) (hP1 : va_P D vwCl wc' H1) : va_P D vwCl ws2 H1 ∧ va_D A ws2 := by
  have hlen : is.length = wc'.length := by
    have e1 := congrArg List.length hC
    have e2 := congrArg List.length hsame
    simp at e1 e2
    omega
  have adr : ∀ (k : Nat) (q : Nat × va_E), ws2[k]? = some q → ∃ q0, ws[k]? = some q0 ∧ q0.1 = q.1 := by
    intro k q hq
    rw [← h2] at hq
    rcases kFold is wc' ws k q hlen hq with ⟨j, g1, g2⟩ | ⟨-, g2⟩
    · have g3 : (wc'.map Prod.fst)[j]? = some q.1 := by rw [List.getElem?_map, g2]; rfl
      rw [hsame, List.getElem?_map] at g3
      cases hj : wc[j]? with
      | none => rw [hj] at g3; cases g3
      | some z =>
        rw [hj] at g3
        obtain ⟨i, h5, h6⟩ := kPick hC j z hj
        have : i = k := Option.some.inj (h5.symm.trans g1)
        subst this
        exact ⟨z, h6, Option.some.inj g3⟩
    · exact ⟨q, g2, rfl⟩
  refine ⟨fun k q hq => ?_, fun i j x z hx hz hxz => ?_, fun k q hq => ?_⟩
  · have hq' := hq
    rw [← h2] at hq'
    rcases kFold is wc' ws k q hlen hq' with ⟨j, g1, g2⟩ | ⟨g1, g2⟩
    · exact hP1 j q g2
    · have hl := (hP k q g2).lt
      refine (hP k q g2).kept (hk q.1 hl (fun h => ?_))
      rcases h with ⟨j, e, h⟩ | h
      · obtain ⟨i, h5, h6⟩ := kPick hC j (q.1, e) h
        have hij := hD.1 k i q (q.1, e) g2 h6 rfl
        subst hij
        exact g1 (List.mem_of_getElem? h5)
      · omega
  · obtain ⟨x0, a1, a2⟩ := adr i x hx
    obtain ⟨z0, b1, b2⟩ := adr j z hz
    exact hD.1 i j x0 z0 a1 b1 (a2.trans (hxz.trans b2.symm))
  · obtain ⟨q0, a1, a2⟩ := adr k q hq
    rw [← a2]
    exact hD.2 k q0 a1
/-- a part that comes back as it was -/
theorem kBackR {D : va_G} {A : Nat → Prop} {ws wc : va_W} {H H1 : Heap} {is : List Nat} (hP : va_P D vwCl ws H) (hD : va_D A ws) (hC : is.map (fun i => ws[i]?) = wc.map some)
    (hk : ∀ q : Nat, q < H.size → ¬ va_A wc H.size q → H1[q]? = H[q]?) (hP1 : va_P D vwCl wc H1) : va_P D vwCl ws H1 := by
  intro k q hq
  have hl := (hP k q hq).lt
  by_cases hA : va_A wc H.size q.1
  · rcases hA with ⟨j, e, h⟩ | h
    · obtain ⟨i, h5, h6⟩ := kPick hC j (q.1, e) h
      have hij := hD.1 k i q (q.1, e) hq h6 rfl
      subst hij
      have : q = (q.1, e) := Option.some.inj (hq.symm.trans h6)
      rw [this]
      exact hP1 j _ h
    · omega
  · exact (hP k q hq).kept (hk q.1 hl hA)
section KCL
variable {p : Program} {l : Launch} {e : Env} {R : Room} {s : State} {m : MethodId} {args : Array Value} {below : List Frame} {meth : Method} {c : Code} {H : Heap} {locs : List Loc} {cells slots : Nat} {Q : State → Prop}
variable {cc : ByteArray} {pc : Nat} {ls : Array Slot} {rest st0 st2 : List Value} {D : va_G} {A : Nat → Prop} {a : Array Value} {tys : List (ClassId × FieldType)} {ad : (Nat → Nat) × (Nat → Nat)} {ws ws2 wc wc' : va_W} {H0 : Heap} {maxL : Nat} {ret : Option FieldType} {own : String} {rv : Option Value}
theorem kGo (hr : va_Run p l e R s m args below meth c H locs cells slots 0 0 (F0 m pc ls st0) rest (kQ D (va_A wc H.size) rv wc' a) (va_A wc H.size)) (hw : kW D A H0 ws H locs) (hF : ∀ q, va_A wc H.size q → A q) (hst : rv.toList ++ rest = st2)
    (hb : ∀ H1 : Heap, (∀ q : Nat, q < H.size → ¬ va_A wc H.size q → H1[q]? = H[q]?) → va_P D vwCl wc' H1 → va_P D vwCl ws2 H1 ∧ va_D A ws2)
    (kk : ∀ (H1 : Heap) (locs1 : List Loc), kW D A H0 ws2 H1 locs1 → W p l e R s m args below meth c H1 locs1 cells slots Q (F0 m (pc + 3) ls st2)) : W p l e R s m args below meth c H locs cells slots Q (F0 m pc ls st0) := by
  subst hst
  intro T hT X
  obtain ⟨v, st₀, t, T', L, h0, X', hL, e1, e2, ⟨⟨hv, hP1, hD1⟩, hz, hk⟩, st⟩ := hr T hT X
  cases hv
  rw [h0] at hz hk
  rw [← e1] at hP1 hz hk
  obtain ⟨b1, b2⟩ := hb T'.heap hk hP1
  obtain ⟨t2, a1, c1⟩ := kk T'.heap (locs ++ L) ⟨b1, b2, Nat.le_trans hw.2.2.1 hz, fun q h1 h2 => by rw [hk q (Nat.lt_of_lt_of_le h1 hw.2.2.1) (fun z => h2 (hF q z))]; exact hw.2.2.2.1 q h1 h2, fun q hq => by
    rcases List.mem_append.mp hq with h | h
    · exact hw.2.2.2.2 q h
    · exact hF _ (hL q h)⟩ T' rfl X'
  exact ⟨t2, st t2 a1, c1⟩
theorem kPre {av : List Value} (C : kC p s m args meth c cc maxL ret own D tys ad A) (hw : kW D A s.heap ws H locs) (is : List Nat) (hn : va_nd is = true) (hC : is.map (fun i => ws[i]?) = wc.map some) : FrameBlind (kP D tys ad av wc H.size) ∧ ∀ U : State, U.heap = H → s.WarmedH U.vm → kP D tys ad av wc H.size av.toArray U := by
  refine ⟨kP_blind D tys ad av wc H.size, fun U hU hW => ⟨rfl, by rw [hU], ?_, va_K.moved hW.alike C.2.2.2.2.2.2.2.1, ?_, ?_⟩⟩
  · rw [hU]
    intro j q hq
    obtain ⟨i, h5, h6⟩ := kPick hC j q hq
    exact hw.1 i q h6
  · exact (hw.2.1.sub is hn hC).weaken (fun _ _ _ _ => trivial)
  · exact C.2.2.2.2.2.2.2.2.1.use hw.2.2 hW hU (va_free hw.2.1 hw.2.2 C.2.2.2.2.2.2.2.2.2 is hC)
variable {y : MethodName} {wy : List Cond} {rm : Room} {bytes : ByteArray} {maxLy n index : Nat} {rety : Option FieldType} {Cn : String} {b : Nat} {As : List Value}
/-- a virtual call: cells of the part may change -/
theorem kCallV (C : kC p s m args meth c cc maxL ret own D tys ad A) (hw : kW D A s.heap ws H locs) (hM : kM l y wy rm D tys ad (.ref b :: As) wc rv wc') (cw : CallW R s args own Cn index y bytes maxLy rety wy rm 0 0 n) (is : List Nat) (hn : va_nd is = true) (hC : is.map (fun i => ws[i]?) = wc.map some) (hsame : wc'.map Prod.fst = wc.map Prod.fst) (h2 : (is.zip wc').foldl (fun w x => w.set x.1 x.2) ws = ws2)
    (q0 ci : Nat) {fs : List Value} {T : u_T} {N : Nat} (he : ws[q0]? = some (b, .inr (ci, fs))) (hcl : vwCl[ci]? = some (Cn, T, N)) (hl : ls.size = maxL) (hlen : As.length = n) (hst0 : As.reverse ++ .ref b :: rest = st0) (hst : rv.toList ++ rest = st2) (hroom : (rest.map fun v => v.category).sum ≤ 8) (hf : cells ≤ R.cells ∧ slots ≤ R.slots) (hdg : decode cc pc = .ok (.invokevirtual index, 3))
    (kk : ∀ (H1 : Heap) (locs1 : List Loc), kW D A s.heap ws2 H1 locs1 → W p l e R s m args below meth c H1 locs1 cells slots Q (F0 m (pc + 3) ls st2)) : W p l e R s m args below meth c H locs cells slots Q (F0 m pc ls st0) := by
  subst hst0
  have hp := kPre (av := .ref b :: As) C hw is hn hC
  exact kGo (va_runV (g := F0 m pc ls (As.reverse ++ .ref b :: rest)) (As := As) (rest := rest) ⟨C.1, C.2.1, C.2.2.1, C.2.2.2.2.2.1, C.2.2.2.2.2.2.1⟩ (hM H.size) cw ⟨hp.1, va_recv C.2.2.2.2.2.2.2.1 hw.1 hcl he, hp.2⟩ rfl hlen hl rfl (lv_room hroom) hdg hf) hw (va_free hw.2.1 hw.2.2 C.2.2.2.2.2.2.2.2.2 is hC) hst (fun H1 g1 g2 => kBack hw.1 hw.2.1 hC hsame h2 g1 g2) kk
/-- a virtual call: the part comes back as it was -/
theorem kCallVR (C : kC p s m args meth c cc maxL ret own D tys ad A) (hw : kW D A s.heap ws H locs) (hM : kM l y wy rm D tys ad (.ref b :: As) wc rv wc) (cw : CallW R s args own Cn index y bytes maxLy rety wy rm 0 0 n) (is : List Nat) (hn : va_nd is = true) (hC : is.map (fun i => ws[i]?) = wc.map some)
    (q0 ci : Nat) {fs : List Value} {T : u_T} {N : Nat} (he : ws[q0]? = some (b, .inr (ci, fs))) (hcl : vwCl[ci]? = some (Cn, T, N)) (hl : ls.size = maxL) (hlen : As.length = n) (hst0 : As.reverse ++ .ref b :: rest = st0) (hst : rv.toList ++ rest = st2) (hroom : (rest.map fun v => v.category).sum ≤ 8) (hf : cells ≤ R.cells ∧ slots ≤ R.slots) (hdg : decode cc pc = .ok (.invokevirtual index, 3))
    (kk : ∀ (H1 : Heap) (locs1 : List Loc), kW D A s.heap ws H1 locs1 → W p l e R s m args below meth c H1 locs1 cells slots Q (F0 m (pc + 3) ls st2)) : W p l e R s m args below meth c H locs cells slots Q (F0 m pc ls st0) := by
  subst hst0
  have hp := kPre (av := .ref b :: As) C hw is hn hC
  exact kGo (va_runV (g := F0 m pc ls (As.reverse ++ .ref b :: rest)) (As := As) (rest := rest) ⟨C.1, C.2.1, C.2.2.1, C.2.2.2.2.2.1, C.2.2.2.2.2.2.1⟩ (hM H.size) cw ⟨hp.1, va_recv C.2.2.2.2.2.2.2.1 hw.1 hcl he, hp.2⟩ rfl hlen hl rfl (lv_room hroom) hdg hf) hw (va_free hw.2.1 hw.2.2 C.2.2.2.2.2.2.2.2.2 is hC) hst (fun H1 g1 g2 => ⟨kBackR hw.1 hw.2.1 hC g1 g2, hw.2.1⟩) kk
/-- a static call: cells of the part may change -/
theorem kCallS (C : kC p s m args meth c cc maxL ret own D tys ad A) (hw : kW D A s.heap ws H locs) (hM : kM l y wy rm D tys ad As wc rv wc') (cw : CallB R s args own index y bytes maxLy rety wy rm 0 0 n ∧ (Cond.static y).before args s = true) (is : List Nat) (hn : va_nd is = true) (hC : is.map (fun i => ws[i]?) = wc.map some) (hsame : wc'.map Prod.fst = wc.map Prod.fst) (h2 : (is.zip wc').foldl (fun w x => w.set x.1 x.2) ws = ws2)
    (hl : ls.size = maxL) (hlen : As.length = n) (hst0 : As.reverse ++ rest = st0) (hst : rv.toList ++ rest = st2) (hroom : (rest.map fun v => v.category).sum ≤ 8) (hf : cells ≤ R.cells ∧ slots ≤ R.slots) (hdg : decode cc pc = .ok (.invokestatic index, 3))
    (kk : ∀ (H1 : Heap) (locs1 : List Loc), kW D A s.heap ws2 H1 locs1 → W p l e R s m args below meth c H1 locs1 cells slots Q (F0 m (pc + 3) ls st2)) : W p l e R s m args below meth c H locs cells slots Q (F0 m pc ls st0) := by
  subst hst0
  have hp := kPre (av := As) C hw is hn hC
  exact kGo (va_runS (g := F0 m pc ls (As.reverse ++ rest)) (As := As) (rest := rest) ⟨C.1, C.2.1, C.2.2.1, C.2.2.2.2.2.1, C.2.2.2.2.2.2.1⟩ (hM H.size) cw hp rfl hlen hl rfl (lv_room hroom) hdg hf) hw (va_free hw.2.1 hw.2.2 C.2.2.2.2.2.2.2.2.2 is hC) hst (fun H1 g1 g2 => kBack hw.1 hw.2.1 hC hsame h2 g1 g2) kk
/-- a static call of a method without a world -/
theorem kCallSP (C : kC p s m args meth c cc maxL ret own D tys ad A) (hw : kW D A s.heap ws H locs) (hM : kM l y wy rm D tys ad As [] rv []) (cw : CallB R s args own index y bytes maxLy rety wy rm 0 0 n ∧ (Cond.static y).before args s = true)
    (hl : ls.size = maxL) (hlen : As.length = n) (hst0 : As.reverse ++ rest = st0) (hst : rv.toList ++ rest = st2) (hroom : (rest.map fun v => v.category).sum ≤ 8) (hf : cells ≤ R.cells ∧ slots ≤ R.slots) (hdg : decode cc pc = .ok (.invokestatic index, 3))
    (kk : ∀ (H1 : Heap) (locs1 : List Loc), kW D A s.heap ws H1 locs1 → W p l e R s m args below meth c H1 locs1 cells slots Q (F0 m (pc + 3) ls st2)) : W p l e R s m args below meth c H locs cells slots Q (F0 m pc ls st0) := by
  subst hst0
  have hp := kPre (av := As) (wc := []) C hw [] rfl rfl
  exact kGo (va_runS (g := F0 m pc ls (As.reverse ++ rest)) (As := As) (rest := rest) ⟨C.1, C.2.1, C.2.2.1, C.2.2.2.2.2.1, C.2.2.2.2.2.2.1⟩ (hM H.size) cw hp rfl hlen hl rfl (lv_room hroom) hdg hf) hw (va_free hw.2.1 hw.2.2 C.2.2.2.2.2.2.2.2.2 [] rfl) hst (fun H1 g1 g2 => ⟨kBackR (is := []) (wc := []) hw.1 hw.2.1 rfl g1 g2, hw.2.1⟩) kk
/-- the same, of a nest mate -/
theorem kCallSN (C : kC p s m args meth c cc maxL ret own D tys ad A) (hw : kW D A s.heap ws H locs) (hM : kM l y wy rm D tys ad As [] rv []) (cw : va_CN R s args own index y "DikeWatch" bytes maxLy rety wy rm 0 0 n ∧ (Cond.static y).before args s = true ∧ True)
    (hl : ls.size = maxL) (hlen : As.length = n) (hst0 : As.reverse ++ rest = st0) (hst : rv.toList ++ rest = st2) (hroom : (rest.map fun v => v.category).sum ≤ 8) (hf : cells ≤ R.cells ∧ slots ≤ R.slots) (hdg : decode cc pc = .ok (.invokestatic index, 3))
    (kk : ∀ (H1 : Heap) (locs1 : List Loc), kW D A s.heap ws H1 locs1 → W p l e R s m args below meth c H1 locs1 cells slots Q (F0 m (pc + 3) ls st2)) : W p l e R s m args below meth c H locs cells slots Q (F0 m pc ls st0) := by
  subst hst0
  have hp := kPre (av := As) (wc := []) C hw [] rfl rfl
  exact kGo (va_runSN (g := F0 m pc ls (As.reverse ++ rest)) (As := As) (rest := rest) ⟨C.1, C.2.1, C.2.2.1, C.2.2.2.2.2.1, C.2.2.2.2.2.2.1⟩ (hM H.size) cw hp rfl hlen hl rfl (lv_room hroom) hdg hf) hw (va_free hw.2.1 hw.2.2 C.2.2.2.2.2.2.2.2.2 [] rfl) hst (fun H1 g1 g2 => ⟨kBackR (is := []) (wc := []) hw.1 hw.2.1 rfl g1 g2, hw.2.1⟩) kk
end KCL
end
section
/-! ===== a method as a pure function: reads and writes are checked, loops have fuel; each form with its inversion ===== -/
def FU : Nat := 2000
abbrev kT (cB cI cJ cZ : ClassId) : List (ClassId × FieldType) := [(cB, .byte), (cI, .int), (cJ, .long), (cZ, .boolean)]
def bd {α β : Type} (e : α) (k : α → Option β) : Option β := k e
theorem bd_ {α β : Type} {e : α} {k : α → Option β} {r : β} (h : bd e k = some r) : ∃ x, x = e ∧ k x = some r := ⟨e, rfl, h⟩
def rd {α β : Type} (n : Nat) (f : Nat → α) (i : Int32) (k : α → Option β) : Option β := if i < 0 ∨ n ≤ i.toNatClampNeg then none else k (f i.toNatClampNeg)
theorem rd_ {α β : Type} {n : Nat} {f : Nat → α} {i : Int32} {k : α → Option β} {r : β} (h : rd n f i k = some r) : ∃ v, v = f i.toNatClampNeg ∧ vp_in i n ∧ k v = some r := by
  unfold rd at h
  by_cases c : i < 0 ∨ n ≤ i.toNatClampNeg
  · rw [if_pos c] at h; cases h
  · rw [if_neg c] at h; exact ⟨_, rfl, c, h⟩
def wr {α β : Type} (n : Nat) (i : Int32) (g : α) (k : α → Option β) : Option β := if i < 0 ∨ n ≤ i.toNatClampNeg then none else k g
theorem wr_ {α β : Type} {n : Nat} {g : α} {i : Int32} {k : α → Option β} {r : β} (h : wr n i g k = some r) : ∃ v, v = g ∧ vp_in i n ∧ k v = some r := by
  unfold wr at h
  by_cases c : i < 0 ∨ n ≤ i.toNatClampNeg
  · rw [if_pos c] at h; cases h
  · rw [if_neg c] at h; exact ⟨_, rfl, c, h⟩
def ckI {β : Type} (y : Int32) (k : Option β) : Option β := if y = 0 then none else k
theorem ckI_ {β : Type} {y : Int32} {k : Option β} {r : β} (h : ckI y k = some r) : ¬ y = 0 ∧ k = some r := by
  unfold ckI at h
  by_cases c : y = 0
  · rw [if_pos c] at h; cases h
  · rw [if_neg c] at h; exact ⟨c, h⟩
def ckL {β : Type} (y : Int64) (k : Option β) : Option β := if y = 0 then none else k
theorem ckL_ {β : Type} {y : Int64} {k : Option β} {r : β} (h : ckL y k = some r) : ¬ y = 0 ∧ k = some r := by
  unfold ckL at h
  by_cases c : y = 0
  · rw [if_pos c] at h; cases h
  · rw [if_neg c] at h; exact ⟨c, h⟩
/-- a truth that is returned -/
def ckZ {β : Type} (y : Int32) (k : Option β) : Option β := if y = 0 ∨ y = 1 then k else none
theorem ckZ_ {β : Type} {y : Int32} {k : Option β} {r : β} (h : ckZ y k = some r) : narrow .boolean (.int y) = .int y ∧ k = some r := by
  unfold ckZ at h
  by_cases c : y = 0 ∨ y = 1
  · rw [if_pos c] at h
    refine ⟨?_, h⟩
    rcases c with rfl | rfl <;> rfl
  · rw [if_neg c] at h; cases h
theorem if_t {β : Type} {c : Prop} [Decidable c] {a b : Option β} {r : β} (hc : c) (h : (if c then a else b) = some r) : a = some r := by rw [if_pos hc] at h; exact h
theorem if_f {β : Type} {c : Prop} [Decidable c] {a b : Option β} {r : β} (hc : ¬ c) (h : (if c then a else b) = some r) : b = some r := by rw [if_neg hc] at h; exact h
theorem lp_no {β : Type} {o : Option β} {r : β} (h0 : o = none) (h : o = some r) : False := by rw [h0] at h; cases h
def cl0 {β : Type} (o : Option Unit) (k : Option β) : Option β := match o with
  | some _ => k
  | none => none
theorem cl0_ {β : Type} {o : Option Unit} {k : Option β} {r : β} (h : cl0 o k = some r) : o = some () ∧ k = some r := by
  cases o with
  | none => cases h
  | some a => exact ⟨rfl, h⟩
def jp0 {β : Type} (rest : Option β) (reg : Option β → Option β) : Option β := reg rest
theorem jp0_ {β : Type} {rest : Option β} {reg : Option β → Option β} {r : β} (h : jp0 rest reg = some r) : ∃ K : Option β, (K = some r → rest = some r) ∧ reg K = some r := ⟨rest, fun q => q, h⟩
def lp0 {β : Type} (body : Option β → Option β) : Nat → Option β
  | 0 => none
  | n + 1 => body (lp0 body n)
theorem lp0_ {β : Type} {body : Option β → Option β} {n : Nat} {r : β} (h : lp0 body n = some r) : ∃ K : Nat → Option β, (K 0 = none) ∧ (∀ n, K (n + 1) = some r → body (K n) = some r) ∧ K n = some r := ⟨lp0 body, rfl, fun _ q => q, h⟩
def cl1 {A1 β : Type} (o : Option (A1)) (k : A1 → Option β) : Option β := match o with
  | some a1 => k a1
  | none => none
theorem cl1_ {A1 β : Type} {o : Option (A1)} {k : A1 → Option β} {r : β} (h : cl1 o k = some r) : ∃ (a1 : A1), o = some a1 ∧ k a1 = some r := by
  cases o with
  | none => cases h
  | some q => exact ⟨q, rfl, h⟩
theorem cl1_e {A1 β : Type} {k : A1 → Option β} (a1 : A1) : cl1 (some a1) k = k a1 := rfl
def jp1 {A1 β : Type} (rest : A1 → Option β) (reg : (A1 → Option β) → Option β) : Option β := reg rest
theorem jp1_ {A1 β : Type} {rest : A1 → Option β} {reg : (A1 → Option β) → Option β} {r : β} (h : jp1 rest reg = some r) : ∃ K : A1 → Option β, (∀ (a1 : A1), K a1 = some r → rest a1 = some r) ∧ reg K = some r := ⟨rest, fun a1 q => q, h⟩
def lp1 {A1 β : Type} (body : A1 → (A1 → Option β) → Option β) : Nat → A1 → Option β
  | 0, _ => none
  | n + 1, a1 => body a1 (lp1 body n)
theorem lp1_ {A1 β : Type} {body : A1 → (A1 → Option β) → Option β} {n : Nat} {a1 : A1} {r : β} (h : lp1 body n a1 = some r) : ∃ K : Nat → A1 → Option β, (∀ (a1 : A1), K 0 a1 = none) ∧ (∀ (n : Nat) (a1 : A1), K (n + 1) a1 = some r → body a1 (K n) = some r) ∧ K n a1 = some r := ⟨lp1 body, fun _ => rfl, fun n a1 q => q, h⟩
def cl2 {A1 A2 β : Type} (o : Option (A1 × A2)) (k : A1 → A2 → Option β) : Option β := match o with
  | some (a1, a2) => k a1 a2
  | none => none
theorem cl2_ {A1 A2 β : Type} {o : Option (A1 × A2)} {k : A1 → A2 → Option β} {r : β} (h : cl2 o k = some r) : ∃ (a1 : A1) (a2 : A2), o = some (a1, a2) ∧ k a1 a2 = some r := by
  cases o with
  | none => cases h
  | some q => exact ⟨q.1, q.2, rfl, h⟩
theorem cl2_e {A1 A2 β : Type} {k : A1 → A2 → Option β} (a1 : A1) (a2 : A2) : cl2 (some (a1, a2)) k = k a1 a2 := rfl
def jp2 {A1 A2 β : Type} (rest : A1 → A2 → Option β) (reg : (A1 → A2 → Option β) → Option β) : Option β := reg rest
theorem jp2_ {A1 A2 β : Type} {rest : A1 → A2 → Option β} {reg : (A1 → A2 → Option β) → Option β} {r : β} (h : jp2 rest reg = some r) : ∃ K : A1 → A2 → Option β, (∀ (a1 : A1) (a2 : A2), K a1 a2 = some r → rest a1 a2 = some r) ∧ reg K = some r := ⟨rest, fun a1 a2 q => q, h⟩
def lp2 {A1 A2 β : Type} (body : A1 → A2 → (A1 → A2 → Option β) → Option β) : Nat → A1 → A2 → Option β
  | 0, _, _ => none
  | n + 1, a1, a2 => body a1 a2 (lp2 body n)
theorem lp2_ {A1 A2 β : Type} {body : A1 → A2 → (A1 → A2 → Option β) → Option β} {n : Nat} {a1 : A1} {a2 : A2} {r : β} (h : lp2 body n a1 a2 = some r) : ∃ K : Nat → A1 → A2 → Option β, (∀ (a1 : A1) (a2 : A2), K 0 a1 a2 = none) ∧ (∀ (n : Nat) (a1 : A1) (a2 : A2), K (n + 1) a1 a2 = some r → body a1 a2 (K n) = some r) ∧ K n a1 a2 = some r := ⟨lp2 body, fun _ _ => rfl, fun n a1 a2 q => q, h⟩
def cl3 {A1 A2 A3 β : Type} (o : Option (A1 × A2 × A3)) (k : A1 → A2 → A3 → Option β) : Option β := match o with
  | some (a1, a2, a3) => k a1 a2 a3
  | none => none
theorem cl3_ {A1 A2 A3 β : Type} {o : Option (A1 × A2 × A3)} {k : A1 → A2 → A3 → Option β} {r : β} (h : cl3 o k = some r) : ∃ (a1 : A1) (a2 : A2) (a3 : A3), o = some (a1, a2, a3) ∧ k a1 a2 a3 = some r := by
  cases o with
  | none => cases h
  | some q => exact ⟨q.1, q.2.1, q.2.2, rfl, h⟩
theorem cl3_e {A1 A2 A3 β : Type} {k : A1 → A2 → A3 → Option β} (a1 : A1) (a2 : A2) (a3 : A3) : cl3 (some (a1, a2, a3)) k = k a1 a2 a3 := rfl
def jp3 {A1 A2 A3 β : Type} (rest : A1 → A2 → A3 → Option β) (reg : (A1 → A2 → A3 → Option β) → Option β) : Option β := reg rest
theorem jp3_ {A1 A2 A3 β : Type} {rest : A1 → A2 → A3 → Option β} {reg : (A1 → A2 → A3 → Option β) → Option β} {r : β} (h : jp3 rest reg = some r) : ∃ K : A1 → A2 → A3 → Option β, (∀ (a1 : A1) (a2 : A2) (a3 : A3), K a1 a2 a3 = some r → rest a1 a2 a3 = some r) ∧ reg K = some r := ⟨rest, fun a1 a2 a3 q => q, h⟩
def lp3 {A1 A2 A3 β : Type} (body : A1 → A2 → A3 → (A1 → A2 → A3 → Option β) → Option β) : Nat → A1 → A2 → A3 → Option β
  | 0, _, _, _ => none
  | n + 1, a1, a2, a3 => body a1 a2 a3 (lp3 body n)
theorem lp3_ {A1 A2 A3 β : Type} {body : A1 → A2 → A3 → (A1 → A2 → A3 → Option β) → Option β} {n : Nat} {a1 : A1} {a2 : A2} {a3 : A3} {r : β} (h : lp3 body n a1 a2 a3 = some r) : ∃ K : Nat → A1 → A2 → A3 → Option β, (∀ (a1 : A1) (a2 : A2) (a3 : A3), K 0 a1 a2 a3 = none) ∧ (∀ (n : Nat) (a1 : A1) (a2 : A2) (a3 : A3), K (n + 1) a1 a2 a3 = some r → body a1 a2 a3 (K n) = some r) ∧ K n a1 a2 a3 = some r := ⟨lp3 body, fun _ _ _ => rfl, fun n a1 a2 a3 q => q, h⟩
def cl4 {A1 A2 A3 A4 β : Type} (o : Option (A1 × A2 × A3 × A4)) (k : A1 → A2 → A3 → A4 → Option β) : Option β := match o with
  | some (a1, a2, a3, a4) => k a1 a2 a3 a4
  | none => none
theorem cl4_ {A1 A2 A3 A4 β : Type} {o : Option (A1 × A2 × A3 × A4)} {k : A1 → A2 → A3 → A4 → Option β} {r : β} (h : cl4 o k = some r) : ∃ (a1 : A1) (a2 : A2) (a3 : A3) (a4 : A4), o = some (a1, a2, a3, a4) ∧ k a1 a2 a3 a4 = some r := by
  cases o with
  | none => cases h
  | some q => exact ⟨q.1, q.2.1, q.2.2.1, q.2.2.2, rfl, h⟩
theorem cl4_e {A1 A2 A3 A4 β : Type} {k : A1 → A2 → A3 → A4 → Option β} (a1 : A1) (a2 : A2) (a3 : A3) (a4 : A4) : cl4 (some (a1, a2, a3, a4)) k = k a1 a2 a3 a4 := rfl
def jp4 {A1 A2 A3 A4 β : Type} (rest : A1 → A2 → A3 → A4 → Option β) (reg : (A1 → A2 → A3 → A4 → Option β) → Option β) : Option β := reg rest
theorem jp4_ {A1 A2 A3 A4 β : Type} {rest : A1 → A2 → A3 → A4 → Option β} {reg : (A1 → A2 → A3 → A4 → Option β) → Option β} {r : β} (h : jp4 rest reg = some r) : ∃ K : A1 → A2 → A3 → A4 → Option β, (∀ (a1 : A1) (a2 : A2) (a3 : A3) (a4 : A4), K a1 a2 a3 a4 = some r → rest a1 a2 a3 a4 = some r) ∧ reg K = some r := ⟨rest, fun a1 a2 a3 a4 q => q, h⟩
def lp4 {A1 A2 A3 A4 β : Type} (body : A1 → A2 → A3 → A4 → (A1 → A2 → A3 → A4 → Option β) → Option β) : Nat → A1 → A2 → A3 → A4 → Option β
  | 0, _, _, _, _ => none
  | n + 1, a1, a2, a3, a4 => body a1 a2 a3 a4 (lp4 body n)
theorem lp4_ {A1 A2 A3 A4 β : Type} {body : A1 → A2 → A3 → A4 → (A1 → A2 → A3 → A4 → Option β) → Option β} {n : Nat} {a1 : A1} {a2 : A2} {a3 : A3} {a4 : A4} {r : β} (h : lp4 body n a1 a2 a3 a4 = some r) : ∃ K : Nat → A1 → A2 → A3 → A4 → Option β, (∀ (a1 : A1) (a2 : A2) (a3 : A3) (a4 : A4), K 0 a1 a2 a3 a4 = none) ∧ (∀ (n : Nat) (a1 : A1) (a2 : A2) (a3 : A3) (a4 : A4), K (n + 1) a1 a2 a3 a4 = some r → body a1 a2 a3 a4 (K n) = some r) ∧ K n a1 a2 a3 a4 = some r := ⟨lp4 body, fun _ _ _ _ => rfl, fun n a1 a2 a3 a4 q => q, h⟩
def cl5 {A1 A2 A3 A4 A5 β : Type} (o : Option (A1 × A2 × A3 × A4 × A5)) (k : A1 → A2 → A3 → A4 → A5 → Option β) : Option β := match o with
  | some (a1, a2, a3, a4, a5) => k a1 a2 a3 a4 a5
  | none => none
theorem cl5_ {A1 A2 A3 A4 A5 β : Type} {o : Option (A1 × A2 × A3 × A4 × A5)} {k : A1 → A2 → A3 → A4 → A5 → Option β} {r : β} (h : cl5 o k = some r) : ∃ (a1 : A1) (a2 : A2) (a3 : A3) (a4 : A4) (a5 : A5), o = some (a1, a2, a3, a4, a5) ∧ k a1 a2 a3 a4 a5 = some r := by
  cases o with
  | none => cases h
  | some q => exact ⟨q.1, q.2.1, q.2.2.1, q.2.2.2.1, q.2.2.2.2, rfl, h⟩
theorem cl5_e {A1 A2 A3 A4 A5 β : Type} {k : A1 → A2 → A3 → A4 → A5 → Option β} (a1 : A1) (a2 : A2) (a3 : A3) (a4 : A4) (a5 : A5) : cl5 (some (a1, a2, a3, a4, a5)) k = k a1 a2 a3 a4 a5 := rfl
def jp5 {A1 A2 A3 A4 A5 β : Type} (rest : A1 → A2 → A3 → A4 → A5 → Option β) (reg : (A1 → A2 → A3 → A4 → A5 → Option β) → Option β) : Option β := reg rest
theorem jp5_ {A1 A2 A3 A4 A5 β : Type} {rest : A1 → A2 → A3 → A4 → A5 → Option β} {reg : (A1 → A2 → A3 → A4 → A5 → Option β) → Option β} {r : β} (h : jp5 rest reg = some r) : ∃ K : A1 → A2 → A3 → A4 → A5 → Option β, (∀ (a1 : A1) (a2 : A2) (a3 : A3) (a4 : A4) (a5 : A5), K a1 a2 a3 a4 a5 = some r → rest a1 a2 a3 a4 a5 = some r) ∧ reg K = some r := ⟨rest, fun a1 a2 a3 a4 a5 q => q, h⟩
def lp5 {A1 A2 A3 A4 A5 β : Type} (body : A1 → A2 → A3 → A4 → A5 → (A1 → A2 → A3 → A4 → A5 → Option β) → Option β) : Nat → A1 → A2 → A3 → A4 → A5 → Option β
  | 0, _, _, _, _, _ => none
  | n + 1, a1, a2, a3, a4, a5 => body a1 a2 a3 a4 a5 (lp5 body n)
theorem lp5_ {A1 A2 A3 A4 A5 β : Type} {body : A1 → A2 → A3 → A4 → A5 → (A1 → A2 → A3 → A4 → A5 → Option β) → Option β} {n : Nat} {a1 : A1} {a2 : A2} {a3 : A3} {a4 : A4} {a5 : A5} {r : β} (h : lp5 body n a1 a2 a3 a4 a5 = some r) : ∃ K : Nat → A1 → A2 → A3 → A4 → A5 → Option β, (∀ (a1 : A1) (a2 : A2) (a3 : A3) (a4 : A4) (a5 : A5), K 0 a1 a2 a3 a4 a5 = none) ∧ (∀ (n : Nat) (a1 : A1) (a2 : A2) (a3 : A3) (a4 : A4) (a5 : A5), K (n + 1) a1 a2 a3 a4 a5 = some r → body a1 a2 a3 a4 a5 (K n) = some r) ∧ K n a1 a2 a3 a4 a5 = some r := ⟨lp5 body, fun _ _ _ _ _ => rfl, fun n a1 a2 a3 a4 a5 q => q, h⟩
def cl6 {A1 A2 A3 A4 A5 A6 β : Type} (o : Option (A1 × A2 × A3 × A4 × A5 × A6)) (k : A1 → A2 → A3 → A4 → A5 → A6 → Option β) : Option β := match o with
  | some (a1, a2, a3, a4, a5, a6) => k a1 a2 a3 a4 a5 a6
  | none => none
theorem cl6_ {A1 A2 A3 A4 A5 A6 β : Type} {o : Option (A1 × A2 × A3 × A4 × A5 × A6)} {k : A1 → A2 → A3 → A4 → A5 → A6 → Option β} {r : β} (h : cl6 o k = some r) : ∃ (a1 : A1) (a2 : A2) (a3 : A3) (a4 : A4) (a5 : A5) (a6 : A6), o = some (a1, a2, a3, a4, a5, a6) ∧ k a1 a2 a3 a4 a5 a6 = some r := by
  cases o with
  | none => cases h
  | some q => exact ⟨q.1, q.2.1, q.2.2.1, q.2.2.2.1, q.2.2.2.2.1, q.2.2.2.2.2, rfl, h⟩
theorem cl6_e {A1 A2 A3 A4 A5 A6 β : Type} {k : A1 → A2 → A3 → A4 → A5 → A6 → Option β} (a1 : A1) (a2 : A2) (a3 : A3) (a4 : A4) (a5 : A5) (a6 : A6) : cl6 (some (a1, a2, a3, a4, a5, a6)) k = k a1 a2 a3 a4 a5 a6 := rfl
def jp6 {A1 A2 A3 A4 A5 A6 β : Type} (rest : A1 → A2 → A3 → A4 → A5 → A6 → Option β) (reg : (A1 → A2 → A3 → A4 → A5 → A6 → Option β) → Option β) : Option β := reg rest
theorem jp6_ {A1 A2 A3 A4 A5 A6 β : Type} {rest : A1 → A2 → A3 → A4 → A5 → A6 → Option β} {reg : (A1 → A2 → A3 → A4 → A5 → A6 → Option β) → Option β} {r : β} (h : jp6 rest reg = some r) : ∃ K : A1 → A2 → A3 → A4 → A5 → A6 → Option β, (∀ (a1 : A1) (a2 : A2) (a3 : A3) (a4 : A4) (a5 : A5) (a6 : A6), K a1 a2 a3 a4 a5 a6 = some r → rest a1 a2 a3 a4 a5 a6 = some r) ∧ reg K = some r := ⟨rest, fun a1 a2 a3 a4 a5 a6 q => q, h⟩
def lp6 {A1 A2 A3 A4 A5 A6 β : Type} (body : A1 → A2 → A3 → A4 → A5 → A6 → (A1 → A2 → A3 → A4 → A5 → A6 → Option β) → Option β) : Nat → A1 → A2 → A3 → A4 → A5 → A6 → Option β
  | 0, _, _, _, _, _, _ => none
  | n + 1, a1, a2, a3, a4, a5, a6 => body a1 a2 a3 a4 a5 a6 (lp6 body n)
theorem lp6_ {A1 A2 A3 A4 A5 A6 β : Type} {body : A1 → A2 → A3 → A4 → A5 → A6 → (A1 → A2 → A3 → A4 → A5 → A6 → Option β) → Option β} {n : Nat} {a1 : A1} {a2 : A2} {a3 : A3} {a4 : A4} {a5 : A5} {a6 : A6} {r : β} (h : lp6 body n a1 a2 a3 a4 a5 a6 = some r) : ∃ K : Nat → A1 → A2 → A3 → A4 → A5 → A6 → Option β, (∀ (a1 : A1) (a2 : A2) (a3 : A3) (a4 : A4) (a5 : A5) (a6 : A6), K 0 a1 a2 a3 a4 a5 a6 = none) ∧ (∀ (n : Nat) (a1 : A1) (a2 : A2) (a3 : A3) (a4 : A4) (a5 : A5) (a6 : A6), K (n + 1) a1 a2 a3 a4 a5 a6 = some r → body a1 a2 a3 a4 a5 a6 (K n) = some r) ∧ K n a1 a2 a3 a4 a5 a6 = some r := ⟨lp6 body, fun _ _ _ _ _ _ => rfl, fun n a1 a2 a3 a4 a5 a6 q => q, h⟩
def cl7 {A1 A2 A3 A4 A5 A6 A7 β : Type} (o : Option (A1 × A2 × A3 × A4 × A5 × A6 × A7)) (k : A1 → A2 → A3 → A4 → A5 → A6 → A7 → Option β) : Option β := match o with
  | some (a1, a2, a3, a4, a5, a6, a7) => k a1 a2 a3 a4 a5 a6 a7
  | none => none
theorem cl7_ {A1 A2 A3 A4 A5 A6 A7 β : Type} {o : Option (A1 × A2 × A3 × A4 × A5 × A6 × A7)} {k : A1 → A2 → A3 → A4 → A5 → A6 → A7 → Option β} {r : β} (h : cl7 o k = some r) : ∃ (a1 : A1) (a2 : A2) (a3 : A3) (a4 : A4) (a5 : A5) (a6 : A6) (a7 : A7), o = some (a1, a2, a3, a4, a5, a6, a7) ∧ k a1 a2 a3 a4 a5 a6 a7 = some r := by
  cases o with
  | none => cases h
  | some q => exact ⟨q.1, q.2.1, q.2.2.1, q.2.2.2.1, q.2.2.2.2.1, q.2.2.2.2.2.1, q.2.2.2.2.2.2, rfl, h⟩
theorem cl7_e {A1 A2 A3 A4 A5 A6 A7 β : Type} {k : A1 → A2 → A3 → A4 → A5 → A6 → A7 → Option β} (a1 : A1) (a2 : A2) (a3 : A3) (a4 : A4) (a5 : A5) (a6 : A6) (a7 : A7) : cl7 (some (a1, a2, a3, a4, a5, a6, a7)) k = k a1 a2 a3 a4 a5 a6 a7 := rfl
def jp7 {A1 A2 A3 A4 A5 A6 A7 β : Type} (rest : A1 → A2 → A3 → A4 → A5 → A6 → A7 → Option β) (reg : (A1 → A2 → A3 → A4 → A5 → A6 → A7 → Option β) → Option β) : Option β := reg rest
theorem jp7_ {A1 A2 A3 A4 A5 A6 A7 β : Type} {rest : A1 → A2 → A3 → A4 → A5 → A6 → A7 → Option β} {reg : (A1 → A2 → A3 → A4 → A5 → A6 → A7 → Option β) → Option β} {r : β} (h : jp7 rest reg = some r) : ∃ K : A1 → A2 → A3 → A4 → A5 → A6 → A7 → Option β, (∀ (a1 : A1) (a2 : A2) (a3 : A3) (a4 : A4) (a5 : A5) (a6 : A6) (a7 : A7), K a1 a2 a3 a4 a5 a6 a7 = some r → rest a1 a2 a3 a4 a5 a6 a7 = some r) ∧ reg K = some r := ⟨rest, fun a1 a2 a3 a4 a5 a6 a7 q => q, h⟩
def lp7 {A1 A2 A3 A4 A5 A6 A7 β : Type} (body : A1 → A2 → A3 → A4 → A5 → A6 → A7 → (A1 → A2 → A3 → A4 → A5 → A6 → A7 → Option β) → Option β) : Nat → A1 → A2 → A3 → A4 → A5 → A6 → A7 → Option β
  | 0, _, _, _, _, _, _, _ => none
  | n + 1, a1, a2, a3, a4, a5, a6, a7 => body a1 a2 a3 a4 a5 a6 a7 (lp7 body n)
theorem lp7_ {A1 A2 A3 A4 A5 A6 A7 β : Type} {body : A1 → A2 → A3 → A4 → A5 → A6 → A7 → (A1 → A2 → A3 → A4 → A5 → A6 → A7 → Option β) → Option β} {n : Nat} {a1 : A1} {a2 : A2} {a3 : A3} {a4 : A4} {a5 : A5} {a6 : A6} {a7 : A7} {r : β} (h : lp7 body n a1 a2 a3 a4 a5 a6 a7 = some r) : ∃ K : Nat → A1 → A2 → A3 → A4 → A5 → A6 → A7 → Option β, (∀ (a1 : A1) (a2 : A2) (a3 : A3) (a4 : A4) (a5 : A5) (a6 : A6) (a7 : A7), K 0 a1 a2 a3 a4 a5 a6 a7 = none) ∧ (∀ (n : Nat) (a1 : A1) (a2 : A2) (a3 : A3) (a4 : A4) (a5 : A5) (a6 : A6) (a7 : A7), K (n + 1) a1 a2 a3 a4 a5 a6 a7 = some r → body a1 a2 a3 a4 a5 a6 a7 (K n) = some r) ∧ K n a1 a2 a3 a4 a5 a6 a7 = some r := ⟨lp7 body, fun _ _ _ _ _ _ _ => rfl, fun n a1 a2 a3 a4 a5 a6 a7 q => q, h⟩
def cl8 {A1 A2 A3 A4 A5 A6 A7 A8 β : Type} (o : Option (A1 × A2 × A3 × A4 × A5 × A6 × A7 × A8)) (k : A1 → A2 → A3 → A4 → A5 → A6 → A7 → A8 → Option β) : Option β := match o with
  | some (a1, a2, a3, a4, a5, a6, a7, a8) => k a1 a2 a3 a4 a5 a6 a7 a8
  | none => none
theorem cl8_ {A1 A2 A3 A4 A5 A6 A7 A8 β : Type} {o : Option (A1 × A2 × A3 × A4 × A5 × A6 × A7 × A8)} {k : A1 → A2 → A3 → A4 → A5 → A6 → A7 → A8 → Option β} {r : β} (h : cl8 o k = some r) : ∃ (a1 : A1) (a2 : A2) (a3 : A3) (a4 : A4) (a5 : A5) (a6 : A6) (a7 : A7) (a8 : A8), o = some (a1, a2, a3, a4, a5, a6, a7, a8) ∧ k a1 a2 a3 a4 a5 a6 a7 a8 = some r := by
  cases o with
  | none => cases h
  | some q => exact ⟨q.1, q.2.1, q.2.2.1, q.2.2.2.1, q.2.2.2.2.1, q.2.2.2.2.2.1, q.2.2.2.2.2.2.1, q.2.2.2.2.2.2.2, rfl, h⟩
theorem cl8_e {A1 A2 A3 A4 A5 A6 A7 A8 β : Type} {k : A1 → A2 → A3 → A4 → A5 → A6 → A7 → A8 → Option β} (a1 : A1) (a2 : A2) (a3 : A3) (a4 : A4) (a5 : A5) (a6 : A6) (a7 : A7) (a8 : A8) : cl8 (some (a1, a2, a3, a4, a5, a6, a7, a8)) k = k a1 a2 a3 a4 a5 a6 a7 a8 := rfl
def jp8 {A1 A2 A3 A4 A5 A6 A7 A8 β : Type} (rest : A1 → A2 → A3 → A4 → A5 → A6 → A7 → A8 → Option β) (reg : (A1 → A2 → A3 → A4 → A5 → A6 → A7 → A8 → Option β) → Option β) : Option β := reg rest
theorem jp8_ {A1 A2 A3 A4 A5 A6 A7 A8 β : Type} {rest : A1 → A2 → A3 → A4 → A5 → A6 → A7 → A8 → Option β} {reg : (A1 → A2 → A3 → A4 → A5 → A6 → A7 → A8 → Option β) → Option β} {r : β} (h : jp8 rest reg = some r) : ∃ K : A1 → A2 → A3 → A4 → A5 → A6 → A7 → A8 → Option β, (∀ (a1 : A1) (a2 : A2) (a3 : A3) (a4 : A4) (a5 : A5) (a6 : A6) (a7 : A7) (a8 : A8), K a1 a2 a3 a4 a5 a6 a7 a8 = some r → rest a1 a2 a3 a4 a5 a6 a7 a8 = some r) ∧ reg K = some r := ⟨rest, fun a1 a2 a3 a4 a5 a6 a7 a8 q => q, h⟩
def lp8 {A1 A2 A3 A4 A5 A6 A7 A8 β : Type} (body : A1 → A2 → A3 → A4 → A5 → A6 → A7 → A8 → (A1 → A2 → A3 → A4 → A5 → A6 → A7 → A8 → Option β) → Option β) : Nat → A1 → A2 → A3 → A4 → A5 → A6 → A7 → A8 → Option β
  | 0, _, _, _, _, _, _, _, _ => none
  | n + 1, a1, a2, a3, a4, a5, a6, a7, a8 => body a1 a2 a3 a4 a5 a6 a7 a8 (lp8 body n)
theorem lp8_ {A1 A2 A3 A4 A5 A6 A7 A8 β : Type} {body : A1 → A2 → A3 → A4 → A5 → A6 → A7 → A8 → (A1 → A2 → A3 → A4 → A5 → A6 → A7 → A8 → Option β) → Option β} {n : Nat} {a1 : A1} {a2 : A2} {a3 : A3} {a4 : A4} {a5 : A5} {a6 : A6} {a7 : A7} {a8 : A8} {r : β} (h : lp8 body n a1 a2 a3 a4 a5 a6 a7 a8 = some r) : ∃ K : Nat → A1 → A2 → A3 → A4 → A5 → A6 → A7 → A8 → Option β, (∀ (a1 : A1) (a2 : A2) (a3 : A3) (a4 : A4) (a5 : A5) (a6 : A6) (a7 : A7) (a8 : A8), K 0 a1 a2 a3 a4 a5 a6 a7 a8 = none) ∧ (∀ (n : Nat) (a1 : A1) (a2 : A2) (a3 : A3) (a4 : A4) (a5 : A5) (a6 : A6) (a7 : A7) (a8 : A8), K (n + 1) a1 a2 a3 a4 a5 a6 a7 a8 = some r → body a1 a2 a3 a4 a5 a6 a7 a8 (K n) = some r) ∧ K n a1 a2 a3 a4 a5 a6 a7 a8 = some r := ⟨lp8 body, fun _ _ _ _ _ _ _ _ => rfl, fun n a1 a2 a3 a4 a5 a6 a7 a8 q => q, h⟩
def cl9 {A1 A2 A3 A4 A5 A6 A7 A8 A9 β : Type} (o : Option (A1 × A2 × A3 × A4 × A5 × A6 × A7 × A8 × A9)) (k : A1 → A2 → A3 → A4 → A5 → A6 → A7 → A8 → A9 → Option β) : Option β := match o with
  | some (a1, a2, a3, a4, a5, a6, a7, a8, a9) => k a1 a2 a3 a4 a5 a6 a7 a8 a9
  | none => none
theorem cl9_ {A1 A2 A3 A4 A5 A6 A7 A8 A9 β : Type} {o : Option (A1 × A2 × A3 × A4 × A5 × A6 × A7 × A8 × A9)} {k : A1 → A2 → A3 → A4 → A5 → A6 → A7 → A8 → A9 → Option β} {r : β} (h : cl9 o k = some r) : ∃ (a1 : A1) (a2 : A2) (a3 : A3) (a4 : A4) (a5 : A5) (a6 : A6) (a7 : A7) (a8 : A8) (a9 : A9), o = some (a1, a2, a3, a4, a5, a6, a7, a8, a9) ∧ k a1 a2 a3 a4 a5 a6 a7 a8 a9 = some r := by
  cases o with
  | none => cases h
  | some q => exact ⟨q.1, q.2.1, q.2.2.1, q.2.2.2.1, q.2.2.2.2.1, q.2.2.2.2.2.1, q.2.2.2.2.2.2.1, q.2.2.2.2.2.2.2.1, q.2.2.2.2.2.2.2.2, rfl, h⟩
theorem cl9_e {A1 A2 A3 A4 A5 A6 A7 A8 A9 β : Type} {k : A1 → A2 → A3 → A4 → A5 → A6 → A7 → A8 → A9 → Option β} (a1 : A1) (a2 : A2) (a3 : A3) (a4 : A4) (a5 : A5) (a6 : A6) (a7 : A7) (a8 : A8) (a9 : A9) : cl9 (some (a1, a2, a3, a4, a5, a6, a7, a8, a9)) k = k a1 a2 a3 a4 a5 a6 a7 a8 a9 := rfl
def jp9 {A1 A2 A3 A4 A5 A6 A7 A8 A9 β : Type} (rest : A1 → A2 → A3 → A4 → A5 → A6 → A7 → A8 → A9 → Option β) (reg : (A1 → A2 → A3 → A4 → A5 → A6 → A7 → A8 → A9 → Option β) → Option β) : Option β := reg rest
theorem jp9_ {A1 A2 A3 A4 A5 A6 A7 A8 A9 β : Type} {rest : A1 → A2 → A3 → A4 → A5 → A6 → A7 → A8 → A9 → Option β} {reg : (A1 → A2 → A3 → A4 → A5 → A6 → A7 → A8 → A9 → Option β) → Option β} {r : β} (h : jp9 rest reg = some r) : ∃ K : A1 → A2 → A3 → A4 → A5 → A6 → A7 → A8 → A9 → Option β, (∀ (a1 : A1) (a2 : A2) (a3 : A3) (a4 : A4) (a5 : A5) (a6 : A6) (a7 : A7) (a8 : A8) (a9 : A9), K a1 a2 a3 a4 a5 a6 a7 a8 a9 = some r → rest a1 a2 a3 a4 a5 a6 a7 a8 a9 = some r) ∧ reg K = some r := ⟨rest, fun a1 a2 a3 a4 a5 a6 a7 a8 a9 q => q, h⟩
def lp9 {A1 A2 A3 A4 A5 A6 A7 A8 A9 β : Type} (body : A1 → A2 → A3 → A4 → A5 → A6 → A7 → A8 → A9 → (A1 → A2 → A3 → A4 → A5 → A6 → A7 → A8 → A9 → Option β) → Option β) : Nat → A1 → A2 → A3 → A4 → A5 → A6 → A7 → A8 → A9 → Option β
  | 0, _, _, _, _, _, _, _, _, _ => none
  | n + 1, a1, a2, a3, a4, a5, a6, a7, a8, a9 => body a1 a2 a3 a4 a5 a6 a7 a8 a9 (lp9 body n)
theorem lp9_ {A1 A2 A3 A4 A5 A6 A7 A8 A9 β : Type} {body : A1 → A2 → A3 → A4 → A5 → A6 → A7 → A8 → A9 → (A1 → A2 → A3 → A4 → A5 → A6 → A7 → A8 → A9 → Option β) → Option β} {n : Nat} {a1 : A1} {a2 : A2} {a3 : A3} {a4 : A4} {a5 : A5} {a6 : A6} {a7 : A7} {a8 : A8} {a9 : A9} {r : β} (h : lp9 body n a1 a2 a3 a4 a5 a6 a7 a8 a9 = some r) : ∃ K : Nat → A1 → A2 → A3 → A4 → A5 → A6 → A7 → A8 → A9 → Option β, (∀ (a1 : A1) (a2 : A2) (a3 : A3) (a4 : A4) (a5 : A5) (a6 : A6) (a7 : A7) (a8 : A8) (a9 : A9), K 0 a1 a2 a3 a4 a5 a6 a7 a8 a9 = none) ∧ (∀ (n : Nat) (a1 : A1) (a2 : A2) (a3 : A3) (a4 : A4) (a5 : A5) (a6 : A6) (a7 : A7) (a8 : A8) (a9 : A9), K (n + 1) a1 a2 a3 a4 a5 a6 a7 a8 a9 = some r → body a1 a2 a3 a4 a5 a6 a7 a8 a9 (K n) = some r) ∧ K n a1 a2 a3 a4 a5 a6 a7 a8 a9 = some r := ⟨lp9 body, fun _ _ _ _ _ _ _ _ _ => rfl, fun n a1 a2 a3 a4 a5 a6 a7 a8 a9 q => q, h⟩
end
