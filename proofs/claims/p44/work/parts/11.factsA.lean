theorem sel_of {l : List (MethodName × Nat)} {i : Nat} {C : String} {q : MethodName} (hl : ∀ q ∈ l, q ∈ lw_privs) (h : (l[i]?).map (fun q => (q.1.cls, q.1)) = some (C, q)) : Cond.selects C q q ∈ TB := by
  cases hq : l[i]? with
  | none => rw [hq] at h; cases h
  | some z =>
    rw [hq] at h
    have h : (z.1.cls, z.1) = (C, q) := Option.some.inj h
    obtain ⟨z1, z2⟩ := z
    have h1 := congrArg Prod.fst h
    have h2 := congrArg Prod.snd h
    dsimp only at h1 h2
    subst h2
    subst h1
    exact TBm (List.mem_append_left _ (List.mem_map.mpr ⟨_, hl _ (List.mem_of_getElem? hq), rfl⟩)) rfl

/-! the words of the tables, by their places in its pieces -/
theorem in_t1 : ∀ w ∈ tables_1_1, w ∈ lw_tbl := fun w h => List.mem_append_right _ (by unfold tables_1; simp only [List.mem_append]; simp [h])
theorem tb1 {w : Cond} {i : Nat} (h : tables_1_1[i]? = some w) (hg : goodWord w = true) : w ∈ TB := TBm (in_t1 _ (List.mem_of_getElem? h)) hg
theorem nw1 {w : Cond} {i : Nat} (h : tables_1_1[i]? = some w) (hg : isNw w = true) : w ∈ NW := List.mem_filter.mpr ⟨in_t1 _ (List.mem_of_getElem? h), hg⟩
theorem in_t2 : ∀ w ∈ tables_1_2, w ∈ lw_tbl := fun w h => List.mem_append_right _ (by unfold tables_1; simp only [List.mem_append]; simp [h])
theorem tb2 {w : Cond} {i : Nat} (h : tables_1_2[i]? = some w) (hg : goodWord w = true) : w ∈ TB := TBm (in_t2 _ (List.mem_of_getElem? h)) hg
theorem nw2 {w : Cond} {i : Nat} (h : tables_1_2[i]? = some w) (hg : isNw w = true) : w ∈ NW := List.mem_filter.mpr ⟨in_t2 _ (List.mem_of_getElem? h), hg⟩
theorem in_t3 : ∀ w ∈ tables_1_3, w ∈ lw_tbl := fun w h => List.mem_append_right _ (by unfold tables_1; simp only [List.mem_append]; simp [h])
theorem tb3 {w : Cond} {i : Nat} (h : tables_1_3[i]? = some w) (hg : goodWord w = true) : w ∈ TB := TBm (in_t3 _ (List.mem_of_getElem? h)) hg
theorem nw3 {w : Cond} {i : Nat} (h : tables_1_3[i]? = some w) (hg : isNw w = true) : w ∈ NW := List.mem_filter.mpr ⟨in_t3 _ (List.mem_of_getElem? h), hg⟩
theorem in_t4 : ∀ w ∈ tables_1_4, w ∈ lw_tbl := fun w h => List.mem_append_right _ (by unfold tables_1; simp only [List.mem_append]; simp [h])
theorem tb4 {w : Cond} {i : Nat} (h : tables_1_4[i]? = some w) (hg : goodWord w = true) : w ∈ TB := TBm (in_t4 _ (List.mem_of_getElem? h)) hg
theorem nw4 {w : Cond} {i : Nat} (h : tables_1_4[i]? = some w) (hg : isNw w = true) : w ∈ NW := List.mem_filter.mpr ⟨in_t4 _ (List.mem_of_getElem? h), hg⟩
theorem in_t5 : ∀ w ∈ tables_1_5, w ∈ lw_tbl := fun w h => List.mem_append_right _ (by unfold tables_1; simp only [List.mem_append]; simp [h])
theorem tb5 {w : Cond} {i : Nat} (h : tables_1_5[i]? = some w) (hg : goodWord w = true) : w ∈ TB := TBm (in_t5 _ (List.mem_of_getElem? h)) hg
theorem nw5 {w : Cond} {i : Nat} (h : tables_1_5[i]? = some w) (hg : isNw w = true) : w ∈ NW := List.mem_filter.mpr ⟨in_t5 _ (List.mem_of_getElem? h), hg⟩
theorem in_t6 : ∀ w ∈ tables_1_6, w ∈ lw_tbl := fun w h => List.mem_append_right _ (by unfold tables_1; simp only [List.mem_append]; simp [h])
theorem tb6 {w : Cond} {i : Nat} (h : tables_1_6[i]? = some w) (hg : goodWord w = true) : w ∈ TB := TBm (in_t6 _ (List.mem_of_getElem? h)) hg
theorem nw6 {w : Cond} {i : Nat} (h : tables_1_6[i]? = some w) (hg : isNw w = true) : w ∈ NW := List.mem_filter.mpr ⟨in_t6 _ (List.mem_of_getElem? h), hg⟩
theorem in_t7 : ∀ w ∈ tables_1_7, w ∈ lw_tbl := fun w h => List.mem_append_right _ (by unfold tables_1; simp only [List.mem_append]; simp [h])
theorem tb7 {w : Cond} {i : Nat} (h : tables_1_7[i]? = some w) (hg : goodWord w = true) : w ∈ TB := TBm (in_t7 _ (List.mem_of_getElem? h)) hg
theorem nw7 {w : Cond} {i : Nat} (h : tables_1_7[i]? = some w) (hg : isNw w = true) : w ∈ NW := List.mem_filter.mpr ⟨in_t7 _ (List.mem_of_getElem? h), hg⟩
theorem in_t8 : ∀ w ∈ tables_1_8, w ∈ lw_tbl := fun w h => List.mem_append_right _ (by unfold tables_1; simp only [List.mem_append]; simp [h])
theorem tb8 {w : Cond} {i : Nat} (h : tables_1_8[i]? = some w) (hg : goodWord w = true) : w ∈ TB := TBm (in_t8 _ (List.mem_of_getElem? h)) hg
theorem nw8 {w : Cond} {i : Nat} (h : tables_1_8[i]? = some w) (hg : isNw w = true) : w ∈ NW := List.mem_filter.mpr ⟨in_t8 _ (List.mem_of_getElem? h), hg⟩
theorem in_t9 : ∀ w ∈ tables_1_9, w ∈ lw_tbl := fun w h => List.mem_append_right _ (by unfold tables_1; simp only [List.mem_append]; simp [h])
theorem tb9 {w : Cond} {i : Nat} (h : tables_1_9[i]? = some w) (hg : goodWord w = true) : w ∈ TB := TBm (in_t9 _ (List.mem_of_getElem? h)) hg
theorem nw9 {w : Cond} {i : Nat} (h : tables_1_9[i]? = some w) (hg : isNw w = true) : w ∈ NW := List.mem_filter.mpr ⟨in_t9 _ (List.mem_of_getElem? h), hg⟩
theorem in_p1 : ∀ q ∈ lw_privs_1, q ∈ lw_privs := fun w h => by unfold lw_privs; simp only [List.mem_append]; simp [h]
theorem sel1 {q : MethodName} {C : String} {i : Nat} (h : (lw_privs_1[i]?).map (fun q => (q.1.cls, q.1)) = some (C, q)) : Cond.selects C q q ∈ TB := sel_of in_p1 h
theorem in_p2 : ∀ q ∈ lw_privs_2, q ∈ lw_privs := fun w h => by unfold lw_privs; simp only [List.mem_append]; simp [h]
theorem sel2 {q : MethodName} {C : String} {i : Nat} (h : (lw_privs_2[i]?).map (fun q => (q.1.cls, q.1)) = some (C, q)) : Cond.selects C q q ∈ TB := sel_of in_p2 h
theorem in_p3 : ∀ q ∈ lw_privs_3, q ∈ lw_privs := fun w h => by unfold lw_privs; simp only [List.mem_append]; simp [h]
theorem sel3 {q : MethodName} {C : String} {i : Nat} (h : (lw_privs_3[i]?).map (fun q => (q.1.cls, q.1)) = some (C, q)) : Cond.selects C q q ∈ TB := sel_of in_p3 h
theorem in_p4 : ∀ q ∈ lw_privs_4, q ∈ lw_privs := fun w h => by unfold lw_privs; simp only [List.mem_append]; simp [h]
theorem sel4 {q : MethodName} {C : String} {i : Nat} (h : (lw_privs_4[i]?).map (fun q => (q.1.cls, q.1)) = some (C, q)) : Cond.selects C q q ∈ TB := sel_of in_p4 h
theorem in_p5 : ∀ q ∈ lw_privs_5, q ∈ lw_privs := fun w h => by unfold lw_privs; simp only [List.mem_append]; simp [h]
theorem sel5 {q : MethodName} {C : String} {i : Nat} (h : (lw_privs_5[i]?).map (fun q => (q.1.cls, q.1)) = some (C, q)) : Cond.selects C q q ∈ TB := sel_of in_p5 h
theorem in_p6 : ∀ q ∈ lw_privs_6, q ∈ lw_privs := fun w h => by unfold lw_privs; simp only [List.mem_append]; simp [h]
theorem sel6 {q : MethodName} {C : String} {i : Nat} (h : (lw_privs_6[i]?).map (fun q => (q.1.cls, q.1)) = some (C, q)) : Cond.selects C q q ∈ TB := sel_of in_p6 h
theorem in_p7 : ∀ q ∈ lw_privs_7, q ∈ lw_privs := fun w h => by unfold lw_privs; simp only [List.mem_append]; simp [h]
theorem sel7 {q : MethodName} {C : String} {i : Nat} (h : (lw_privs_7[i]?).map (fun q => (q.1.cls, q.1)) = some (C, q)) : Cond.selects C q q ∈ TB := sel_of in_p7 h
theorem in_p8 : ∀ q ∈ lw_privs_8, q ∈ lw_privs := fun w h => by unfold lw_privs; simp only [List.mem_append]; simp [h]
theorem sel8 {q : MethodName} {C : String} {i : Nat} (h : (lw_privs_8[i]?).map (fun q => (q.1.cls, q.1)) = some (C, q)) : Cond.selects C q q ∈ TB := sel_of in_p8 h
theorem in_p9 : ∀ q ∈ lw_privs_9, q ∈ lw_privs := fun w h => by unfold lw_privs; simp only [List.mem_append]; simp [h]
theorem sel9 {q : MethodName} {C : String} {i : Nat} (h : (lw_privs_9[i]?).map (fun q => (q.1.cls, q.1)) = some (C, q)) : Cond.selects C q q ∈ TB := sel_of in_p9 h
theorem in_p10 : ∀ q ∈ lw_privs_10, q ∈ lw_privs := fun w h => by unfold lw_privs; simp only [List.mem_append]; simp [h]
theorem sel10 {q : MethodName} {C : String} {i : Nat} (h : (lw_privs_10[i]?).map (fun q => (q.1.cls, q.1)) = some (C, q)) : Cond.selects C q q ∈ TB := sel_of in_p10 h
theorem ff_X0_0 : FI 0 RX0 TX0 5 tyX0 0 2 := ⟨cf0, by decide, by decide, trivial, rfl⟩
theorem ff_X0_1 : FI 0 RX0 TX0 5 tyX0 1 2 := ⟨cf0, by decide, by decide, trivial, rfl⟩
theorem ff_X0_2 : FI 0 RX0 TX0 5 tyX0 2 0 := ⟨cf0, by decide, by decide, trivial, rfl⟩
theorem ff_X0_3 : FI 0 RX0 TX0 5 tyX0 3 0 := ⟨cf0, by decide, by decide, trivial, rfl⟩
theorem ff_X0_4 : FI 0 RX0 TX0 5 tyX0 4 0 := ⟨cf0, by decide, by decide, trivial, rfl⟩
theorem ff_X1_0 : FI 1 RX1 TX1 20 tyX1 0 0 := ⟨cf1, by decide, by decide, trivial, rfl⟩
theorem ff_X1_1 : FI 1 RX1 TX1 20 tyX1 1 0 := ⟨cf1, by decide, by decide, trivial, rfl⟩
theorem ff_X1_2 : FI 1 RX1 TX1 20 tyX1 2 0 := ⟨cf1, by decide, by decide, trivial, rfl⟩
theorem ff_X1_3 : FI 1 RX1 TX1 20 tyX1 3 0 := ⟨cf1, by decide, by decide, trivial, rfl⟩
theorem ff_X1_4 : FI 1 RX1 TX1 20 tyX1 4 0 := ⟨cf1, by decide, by decide, trivial, rfl⟩
theorem ff_X1_5 : FI 1 RX1 TX1 20 tyX1 5 0 := ⟨cf1, by decide, by decide, trivial, rfl⟩
theorem ff_X1_6 : FI 1 RX1 TX1 20 tyX1 6 2 := ⟨cf1, by decide, by decide, trivial, rfl⟩
theorem ff_X1_7 : FI 1 RX1 TX1 20 tyX1 7 2 := ⟨cf1, by decide, by decide, trivial, rfl⟩
theorem ff_X1_8 : FI 1 RX1 TX1 20 tyX1 8 2 := ⟨cf1, by decide, by decide, trivial, rfl⟩
theorem ff_X1_9 : FI 1 RX1 TX1 20 tyX1 9 2 := ⟨cf1, by decide, by decide, trivial, rfl⟩
theorem ff_X1_10 : FI 1 RX1 TX1 20 tyX1 10 2 := ⟨cf1, by decide, by decide, trivial, rfl⟩
theorem ff_X1_11 : FI 1 RX1 TX1 20 tyX1 11 2 := ⟨cf1, by decide, by decide, trivial, rfl⟩
theorem ff_X1_12 : FI 1 RX1 TX1 20 tyX1 12 2 := ⟨cf1, by decide, by decide, trivial, rfl⟩
theorem ff_X1_13 : FI 1 RX1 TX1 20 tyX1 13 0 := ⟨cf1, by decide, by decide, trivial, rfl⟩
theorem ff_X1_14 : FI 1 RX1 TX1 20 tyX1 14 2 := ⟨cf1, by decide, by decide, trivial, rfl⟩
theorem ff_X1_15 : FI 1 RX1 TX1 20 tyX1 15 2 := ⟨cf1, by decide, by decide, trivial, rfl⟩
theorem ff_X1_16 : FI 1 RX1 TX1 20 tyX1 16 2 := ⟨cf1, by decide, by decide, trivial, rfl⟩
theorem ff_X1_17 : FI 1 RX1 TX1 20 tyX1 17 2 := ⟨cf1, by decide, by decide, trivial, rfl⟩
theorem ff_X1_18 : FI 1 RX1 TX1 20 tyX1 18 2 := ⟨cf1, by decide, by decide, trivial, rfl⟩
theorem ff_X1_19 : FI 1 RX1 TX1 20 tyX1 19 2 := ⟨cf1, by decide, by decide, trivial, rfl⟩
theorem ff_X2_0 : FI 2 RX2 TX2 9 tyX2 0 2 := ⟨cf2, by decide, by decide, trivial, rfl⟩
theorem ff_X2_1 : FI 2 RX2 TX2 9 tyX2 1 2 := ⟨cf2, by decide, by decide, trivial, rfl⟩
theorem ff_X2_2 : FI 2 RX2 TX2 9 tyX2 2 2 := ⟨cf2, by decide, by decide, trivial, rfl⟩
theorem ff_X2_3 : FI 2 RX2 TX2 9 tyX2 3 2 := ⟨cf2, by decide, by decide, trivial, rfl⟩
theorem ff_X2_4 : FI 2 RX2 TX2 9 tyX2 4 2 := ⟨cf2, by decide, by decide, trivial, rfl⟩
theorem ff_X2_5 : FI 2 RX2 TX2 9 tyX2 5 0 := ⟨cf2, by decide, by decide, trivial, rfl⟩
theorem ff_X2_6 : FI 2 RX2 TX2 9 tyX2 6 0 := ⟨cf2, by decide, by decide, trivial, rfl⟩
theorem ff_X2_7 : FI 2 RX2 TX2 9 tyX2 7 0 := ⟨cf2, by decide, by decide, trivial, rfl⟩
theorem ff_X2_8 : FI 2 RX2 TX2 9 tyX2 8 0 := ⟨cf2, by decide, by decide, trivial, rfl⟩
theorem ff_X3_0 : FI 3 RX3 TX3 5 tyX3 0 0 := ⟨cf3, by decide, by decide, trivial, rfl⟩
theorem ff_X3_1 : FI 3 RX3 TX3 5 tyX3 1 0 := ⟨cf3, by decide, by decide, trivial, rfl⟩
theorem ff_X3_2 : FI 3 RX3 TX3 5 tyX3 2 0 := ⟨cf3, by decide, by decide, trivial, rfl⟩
theorem ff_X3_3 : FI 3 RX3 TX3 5 tyX3 3 0 := ⟨cf3, by decide, by decide, trivial, rfl⟩
theorem ff_X3_4 : FI 3 RX3 TX3 5 tyX3 4 0 := ⟨cf3, by decide, by decide, trivial, rfl⟩
theorem ff_X4_0 : FI 4 RX4 TX4 7 tyX4 0 2 := ⟨cf4, by decide, by decide, trivial, rfl⟩
theorem ff_X4_1 : FI 4 RX4 TX4 7 tyX4 1 2 := ⟨cf4, by decide, by decide, trivial, rfl⟩
theorem ff_X4_2 : FI 4 RX4 TX4 7 tyX4 2 2 := ⟨cf4, by decide, by decide, trivial, rfl⟩
theorem ff_X4_3 : FI 4 RX4 TX4 7 tyX4 3 0 := ⟨cf4, by decide, by decide, trivial, rfl⟩
theorem ff_X4_4 : FI 4 RX4 TX4 7 tyX4 4 0 := ⟨cf4, by decide, by decide, trivial, rfl⟩
theorem ff_X4_5 : FI 4 RX4 TX4 7 tyX4 5 0 := ⟨cf4, by decide, by decide, trivial, rfl⟩
theorem ff_X4_6 : FI 4 RX4 TX4 7 tyX4 6 0 := ⟨cf4, by decide, by decide, trivial, rfl⟩
theorem ff_X5_0 : FI 5 RX5 TX5 15 tyX5 0 0 := ⟨cf5, by decide, by decide, trivial, rfl⟩
theorem ff_X5_1 : FI 5 RX5 TX5 15 tyX5 1 0 := ⟨cf5, by decide, by decide, trivial, rfl⟩
theorem ff_X5_2 : FI 5 RX5 TX5 15 tyX5 2 0 := ⟨cf5, by decide, by decide, trivial, rfl⟩
theorem ff_X5_3 : FI 5 RX5 TX5 15 tyX5 3 0 := ⟨cf5, by decide, by decide, trivial, rfl⟩
theorem ff_X5_4 : FI 5 RX5 TX5 15 tyX5 4 0 := ⟨cf5, by decide, by decide, trivial, rfl⟩
theorem ff_X5_5 : FI 5 RX5 TX5 15 tyX5 5 0 := ⟨cf5, by decide, by decide, trivial, rfl⟩
theorem ff_X5_6 : FI 5 RX5 TX5 15 tyX5 6 0 := ⟨cf5, by decide, by decide, trivial, rfl⟩
theorem ff_X5_7 : FI 5 RX5 TX5 15 tyX5 7 0 := ⟨cf5, by decide, by decide, trivial, rfl⟩
theorem ff_X5_8 : FI 5 RX5 TX5 15 tyX5 8 0 := ⟨cf5, by decide, by decide, trivial, rfl⟩
theorem ff_X5_9 : FI 5 RX5 TX5 15 tyX5 9 2 := ⟨cf5, by decide, by decide, trivial, rfl⟩
theorem ff_X5_10 : FI 5 RX5 TX5 15 tyX5 10 2 := ⟨cf5, by decide, by decide, trivial, rfl⟩
theorem ff_X5_11 : FI 5 RX5 TX5 15 tyX5 11 2 := ⟨cf5, by decide, by decide, trivial, rfl⟩
theorem ff_X5_12 : FI 5 RX5 TX5 15 tyX5 12 2 := ⟨cf5, by decide, by decide, trivial, rfl⟩
theorem ff_X5_13 : FI 5 RX5 TX5 15 tyX5 13 2 := ⟨cf5, by decide, by decide, trivial, rfl⟩
theorem ff_X5_14 : FI 5 RX5 TX5 15 tyX5 14 2 := ⟨cf5, by decide, by decide, trivial, rfl⟩
theorem ff_X6_0 : FI 6 RX6 TX6 6 tyX6 0 2 := ⟨cf6, by decide, by decide, trivial, rfl⟩
theorem ff_X6_1 : FI 6 RX6 TX6 6 tyX6 1 2 := ⟨cf6, by decide, by decide, trivial, rfl⟩
theorem ff_X6_2 : FI 6 RX6 TX6 6 tyX6 2 2 := ⟨cf6, by decide, by decide, trivial, rfl⟩
theorem ff_X6_3 : FI 6 RX6 TX6 6 tyX6 3 2 := ⟨cf6, by decide, by decide, trivial, rfl⟩
theorem ff_X6_4 : FI 6 RX6 TX6 6 tyX6 4 2 := ⟨cf6, by decide, by decide, trivial, rfl⟩
theorem ff_X6_5 : FI 6 RX6 TX6 6 tyX6 5 0 := ⟨cf6, by decide, by decide, trivial, rfl⟩
theorem ff_X7_0 : FI 7 RX7 TX7 2 tyX7 0 2 := ⟨cf7, by decide, by decide, trivial, rfl⟩
theorem ff_X7_1 : FI 7 RX7 TX7 2 tyX7 1 0 := ⟨cf7, by decide, by decide, trivial, rfl⟩
theorem ff_X8_0 : FI 8 RX8 TX8 5 tyX8 0 2 := ⟨cf8, by decide, by decide, trivial, rfl⟩
theorem ff_X8_1 : FI 8 RX8 TX8 5 tyX8 1 2 := ⟨cf8, by decide, by decide, trivial, rfl⟩
theorem ff_X8_2 : FI 8 RX8 TX8 5 tyX8 2 2 := ⟨cf8, by decide, by decide, trivial, rfl⟩
theorem ff_X8_3 : FI 8 RX8 TX8 5 tyX8 3 2 := ⟨cf8, by decide, by decide, trivial, rfl⟩
theorem ff_X8_4 : FI 8 RX8 TX8 5 tyX8 4 0 := ⟨cf8, by decide, by decide, trivial, rfl⟩
theorem ff_X9_0 : FI 9 RX9 TX9 5 tyX9 0 2 := ⟨cf9, by decide, by decide, trivial, rfl⟩
theorem ff_X9_1 : FI 9 RX9 TX9 5 tyX9 1 2 := ⟨cf9, by decide, by decide, trivial, rfl⟩
theorem ff_X9_2 : FI 9 RX9 TX9 5 tyX9 2 2 := ⟨cf9, by decide, by decide, trivial, rfl⟩
theorem ff_X9_3 : FI 9 RX9 TX9 5 tyX9 3 2 := ⟨cf9, by decide, by decide, trivial, rfl⟩
theorem ff_X9_4 : FI 9 RX9 TX9 5 tyX9 4 0 := ⟨cf9, by decide, by decide, trivial, rfl⟩
theorem ff_X10_0 : FI 10 RX10 TX10 1 tyX10 0 2 := ⟨cf10, by decide, by decide, trivial, rfl⟩
theorem ff_X11_0 : FI 11 RX11 TX11 18 tyX11 0 2 := ⟨cf11, by decide, by decide, trivial, rfl⟩
theorem ff_X11_1 : FI 11 RX11 TX11 18 tyX11 1 2 := ⟨cf11, by decide, by decide, trivial, rfl⟩
theorem ff_X11_2 : FI 11 RX11 TX11 18 tyX11 2 2 := ⟨cf11, by decide, by decide, trivial, rfl⟩
theorem ff_X11_3 : FI 11 RX11 TX11 18 tyX11 3 2 := ⟨cf11, by decide, by decide, trivial, rfl⟩
theorem ff_X11_4 : FI 11 RX11 TX11 18 tyX11 4 2 := ⟨cf11, by decide, by decide, trivial, rfl⟩
theorem ff_X11_5 : FI 11 RX11 TX11 18 tyX11 5 2 := ⟨cf11, by decide, by decide, trivial, rfl⟩
theorem ff_X11_6 : FI 11 RX11 TX11 18 tyX11 6 2 := ⟨cf11, by decide, by decide, trivial, rfl⟩
theorem ff_X11_7 : FI 11 RX11 TX11 18 tyX11 7 2 := ⟨cf11, by decide, by decide, trivial, rfl⟩
theorem ff_X11_8 : FI 11 RX11 TX11 18 tyX11 8 2 := ⟨cf11, by decide, by decide, trivial, rfl⟩
theorem ff_X11_9 : FI 11 RX11 TX11 18 tyX11 9 2 := ⟨cf11, by decide, by decide, trivial, rfl⟩
theorem ff_X11_10 : FI 11 RX11 TX11 18 tyX11 10 2 := ⟨cf11, by decide, by decide, trivial, rfl⟩
theorem ff_X11_11 : FI 11 RX11 TX11 18 tyX11 11 2 := ⟨cf11, by decide, by decide, trivial, rfl⟩
theorem ff_X11_12 : FI 11 RX11 TX11 18 tyX11 12 2 := ⟨cf11, by decide, by decide, trivial, rfl⟩
theorem ff_X11_13 : FI 11 RX11 TX11 18 tyX11 13 2 := ⟨cf11, by decide, by decide, trivial, rfl⟩
theorem ff_X11_14 : FI 11 RX11 TX11 18 tyX11 14 2 := ⟨cf11, by decide, by decide, trivial, rfl⟩
theorem ff_X11_15 : FI 11 RX11 TX11 18 tyX11 15 2 := ⟨cf11, by decide, by decide, trivial, rfl⟩
theorem ff_X11_16 : FI 11 RX11 TX11 18 tyX11 16 1 := ⟨cf11, by decide, by decide, trivial, rfl⟩
theorem ff_X11_17 : FI 11 RX11 TX11 18 tyX11 17 1 := ⟨cf11, by decide, by decide, trivial, rfl⟩
theorem ff_X12_0 : FI 12 RX12 TX12 9 tyX12 0 2 := ⟨cf12, by decide, by decide, trivial, rfl⟩
theorem ff_X12_1 : FI 12 RX12 TX12 9 tyX12 1 2 := ⟨cf12, by decide, by decide, trivial, rfl⟩
theorem ff_X12_2 : FI 12 RX12 TX12 9 tyX12 2 0 := ⟨cf12, by decide, by decide, trivial, rfl⟩
theorem ff_X12_3 : FI 12 RX12 TX12 9 tyX12 3 0 := ⟨cf12, by decide, by decide, trivial, rfl⟩
theorem ff_X12_4 : FI 12 RX12 TX12 9 tyX12 4 0 := ⟨cf12, by decide, by decide, trivial, rfl⟩
theorem ff_X12_5 : FI 12 RX12 TX12 9 tyX12 5 0 := ⟨cf12, by decide, by decide, trivial, rfl⟩
theorem ff_X12_6 : FI 12 RX12 TX12 9 tyX12 6 0 := ⟨cf12, by decide, by decide, trivial, rfl⟩
theorem ff_X12_7 : FI 12 RX12 TX12 9 tyX12 7 0 := ⟨cf12, by decide, by decide, trivial, rfl⟩
theorem ff_X12_8 : FI 12 RX12 TX12 9 tyX12 8 0 := ⟨cf12, by decide, by decide, trivial, rfl⟩
theorem ff_X13_0 : FI 13 RX13 TX13 3 tyX13 0 0 := ⟨cf13, by decide, by decide, trivial, rfl⟩
theorem ff_X13_1 : FI 13 RX13 TX13 3 tyX13 1 0 := ⟨cf13, by decide, by decide, trivial, rfl⟩
theorem ff_X13_2 : FI 13 RX13 TX13 3 tyX13 2 2 := ⟨cf13, by decide, by decide, trivial, rfl⟩
theorem ff_X14_0 : FI 14 RX14 TX14 5 tyX14 0 2 := ⟨cf14, by decide, by decide, trivial, rfl⟩
theorem ff_X14_1 : FI 14 RX14 TX14 5 tyX14 1 2 := ⟨cf14, by decide, by decide, trivial, rfl⟩
theorem ff_X14_2 : FI 14 RX14 TX14 5 tyX14 2 2 := ⟨cf14, by decide, by decide, trivial, rfl⟩
theorem ff_X14_3 : FI 14 RX14 TX14 5 tyX14 3 0 := ⟨cf14, by decide, by decide, trivial, rfl⟩
theorem ff_X14_4 : FI 14 RX14 TX14 5 tyX14 4 0 := ⟨cf14, by decide, by decide, trivial, rfl⟩
theorem ff_J0_0 : FI 17 RJ0 TJ0 4 tyJ0 0 2 := ⟨cf17, by decide, by decide, trivial, rfl⟩
theorem ff_J0_1 : FI 17 RJ0 TJ0 4 tyJ0 1 0 := ⟨cf17, by decide, by decide, trivial, rfl⟩
theorem ff_J0_2 : FI 17 RJ0 TJ0 4 tyJ0 2 0 := ⟨cf17, by decide, by decide, trivial, rfl⟩
theorem ff_J0_3 : FI 17 RJ0 TJ0 4 tyJ0 3 0 := ⟨cf17, by decide, by decide, trivial, rfl⟩
theorem ff_J4_0 : FI 16 RJ4 TJ4 4 tyJ4 0 2 := ⟨cf16, by decide, by decide, trivial, rfl⟩
theorem ff_J4_1 : FI 16 RJ4 TJ4 4 tyJ4 1 0 := ⟨cf16, by decide, by decide, trivial, rfl⟩
theorem ff_J4_2 : FI 16 RJ4 TJ4 4 tyJ4 2 0 := ⟨cf16, by decide, by decide, trivial, rfl⟩
theorem ff_J4_3 : FI 16 RJ4 TJ4 4 tyJ4 3 0 := ⟨cf16, by decide, by decide, trivial, rfl⟩
theorem ff_Jx35411_0 : FI 19 RJx35411 TJx35411 4 tyJx35411 0 0 := ⟨cf19, by decide, by decide, trivial, rfl⟩
theorem ff_Jx35411_1 : FI 19 RJx35411 TJx35411 4 tyJx35411 1 0 := ⟨cf19, by decide, by decide, trivial, rfl⟩
theorem ff_Jx35411_2 : FI 19 RJx35411 TJx35411 4 tyJx35411 2 0 := ⟨cf19, by decide, by decide, trivial, rfl⟩
theorem ff_Jx35411_3 : FI 19 RJx35411 TJx35411 4 tyJx35411 3 2 := ⟨cf19, by decide, by decide, trivial, rfl⟩
theorem ff_Jx4a65c_0 : FI 18 RJx4a65c TJx4a65c 3 tyJx4a65c 0 0 := ⟨cf18, by decide, by decide, trivial, rfl⟩
theorem ff_Jx4a65c_1 : FI 18 RJx4a65c TJx4a65c 3 tyJx4a65c 1 2 := ⟨cf18, by decide, by decide, trivial, rfl⟩
theorem ff_Jx4a65c_2 : FI 18 RJx4a65c TJx4a65c 3 tyJx4a65c 2 0 := ⟨cf18, by decide, by decide, trivial, rfl⟩
theorem ff_L_0 : FI 15 RL TL 12 tyL 0 2 := ⟨cf15, by decide, by decide, trivial, rfl⟩
theorem ff_L_1 : FI 15 RL TL 12 tyL 1 2 := ⟨cf15, by decide, by decide, trivial, rfl⟩
theorem ff_L_2 : FI 15 RL TL 12 tyL 2 0 := ⟨cf15, by decide, by decide, trivial, rfl⟩
theorem ff_L_3 : FI 15 RL TL 12 tyL 3 0 := ⟨cf15, by decide, by decide, trivial, rfl⟩
theorem ff_L_4 : FI 15 RL TL 12 tyL 4 0 := ⟨cf15, by decide, by decide, trivial, rfl⟩
theorem ff_L_5 : FI 15 RL TL 12 tyL 5 0 := ⟨cf15, by decide, by decide, trivial, rfl⟩
theorem ff_L_6 : FI 15 RL TL 12 tyL 6 2 := ⟨cf15, by decide, by decide, trivial, rfl⟩
theorem ff_L_7 : FI 15 RL TL 12 tyL 7 2 := ⟨cf15, by decide, by decide, trivial, rfl⟩
theorem ff_L_8 : FI 15 RL TL 12 tyL 8 2 := ⟨cf15, by decide, by decide, trivial, rfl⟩
theorem ff_L_9 : FI 15 RL TL 12 tyL 9 2 := ⟨cf15, by decide, by decide, trivial, rfl⟩
theorem ff_L_10 : FI 15 RL TL 12 tyL 10 2 := ⟨cf15, by decide, by decide, trivial, rfl⟩
theorem ff_L_11 : FI 15 RL TL 12 tyL 11 2 := ⟨cf15, by decide, by decide, trivial, rfl⟩
