/-! Strings and byte arrays: constants (the i-th at 10 + i, its bytes at 40 + i), Integer's digits (5, 6), and those that are made -/
def sV (a : Nat) (h : Hp) : Option Nat := if 10 ≤ a ∧ a < 34 then some (a + 30) else gR 17 0 a h
def sC (a : Nat) (h : Hp) : Option Int32 := if 10 ≤ a ∧ a < 34 then some 0 else gI 17 1 a h
def bOk (a : Nat) (h : Hp) : Bool := decide (40 ≤ a ∧ a < 64) || (decide (a = 5) || (decide (a = 6) || decide ((hpS h a).1 = 53)))
def bN (a : Nat) (h : Hp) : Nat := if 40 ≤ a ∧ a < 64 then zLen (a - 40) else if a = 5 then 100 else if a = 6 then 100 else (hpS h a).2
def bAt (a : Nat) (h : Hp) (j : Nat) : Int32 := if 40 ≤ a ∧ a < 64 then zByte (a - 40) j else if a = 5 then dgT j else if a = 6 then dgO j else hpI h a j
def bLn (a : Nat) (h : Hp) : Option Int32 := if bOk a h = true then some (Int32.ofNat (bN a h)) else none
def bLd (a : Nat) (i : Int32) (h : Hp) : Option Int32 := if bOk a h = true ∧ inB i (bN a h) = true then some (bAt a h (ixN i)) else none
def okB (v : Int32) : Bool := decide (narrow .byte (.int v) = .int v) && fits .byte (.int v)
theorem okB_n {v : Int32} (h : okB v = true) : narrow .byte (.int v) = .int v := by unfold okB at h; rw [Bool.and_eq_true] at h; exact of_decide_eq_true h.1
theorem okB_f {v : Int32} (h : okB v = true) : fits .byte (.int v) = true := by unfold okB at h; rw [Bool.and_eq_true] at h; exact h.2
def stB (a : Nat) (i v : Int32) (h : Hp) : Option Hp := if ((hpS h a).1 = 53 ∧ inB i (hpS h a).2 = true) ∧ okB v = true then some (upI h a (ixN i) v) else none
def sB (c k a : Nat) (x : Int32) (h : Hp) : Option Hp := if (hpS h a).1 = c + 1 ∧ okB x = true then some (upI h a k x) else none
def zN (ty : FieldType) (v : Int32) : Option Int32 := if narrow ty (.int v) = .int v then some v else none
/-- a String, made or constant -/
def isStr (a : Nat) (h : Hp) : Prop := (10 ≤ a ∧ a < 34) ∨ (hpS h a).1 = 18
section SR
variable {x : Cx} {cc : ByteArray} {own : String} {d pc q : Nat} {lv lv' : List (Nat × Value)} {st : List Value} {h : Hp} {ρ : Type} {T : ρ → Prop}
theorem j_ldcS (hx : On x cc own d) {i a : Nat} {tx : String} {K : Option ρ} (hw : (own, i, tx, a) ∈ strs0) (hd : decode cc pc = .ok (.ldc i, 2)) (hq : pc + 2 = q) (kk : J x q lv (vR x.2.2.2 (10 + a) :: st) h K T) : J x pc lv st h K T := by
  subst hq
  rw [vR_pos (by omega)] at kk
  exact J.step hx (fun hx H locs ls ce sl h0 k0 => va_ldcS hx.1 hx.2.1 hx.2.2.2.1 (hx.2.2.2.2.2.2.2.2.2.2.2.2.2.2.2.2.1 _ hw) hd (k0 ls h0)) kk
theorem str_of (hx : Ok x cc own d) {a : Nat} (ha : 10 ≤ a ∧ a < 34) : va_O "java/lang/String" (adr x.2.2.2 a) (wArea x.2.2.2) x.1.2.2.2.2.1 x.1.2.2.2.2.1.heap ∧ va_OF "java/lang/String" "coder" "B" (.int 0) (adr x.2.2.2 a) (wArea x.2.2.2) x.1.2.2.2.2.1 x.1.2.2.2.2.1.heap ∧ va_OF "java/lang/String" "value" "[B" (.ref (adr x.2.2.2 (a + 30))) (adr x.2.2.2 a) (wArea x.2.2.2) x.1.2.2.2.2.1 x.1.2.2.2.2.1.heap := by
  obtain ⟨h1, h2, h3, -⟩ := hx.2.2.2.2.2.2.2.2.2.2.2.2.2.2.2.1 (a - 10) (by omega)
  rw [show 10 + (a - 10) = a by omega, show 40 + (a - 10) = a + 30 by omega] at *
  exact ⟨h1, h2, h3⟩
theorem j_sV (hx : On x cc own d) {i a : Nat} {K : Nat → Option ρ} (hw : Cond.fieldLink own i "java/lang/String" "value" "[B" ∈ TB) (hd : decode cc pc = .ok (.getfield i, 3)) (hq : pc + 3 = q) (kk : ∀ v, J x q lv (vR x.2.2.2 v :: st) h (K v) T) : J x pc lv (vR x.2.2.2 a :: st) h ((sV a h).bind K) T := by
  by_cases hk : 10 ≤ a ∧ a < 34
  · unfold sV
    rw [if_pos hk]
    subst hq
    refine J.rd hx (fun hx H locs ls ce sl hP hS k0 => ?_) (kk _)
    rw [vR_pos (show a ≠ 0 by omega)]
    rw [vR_pos (show a + 30 ≠ 0 by omega)] at k0
    exact vk_getf hx.1 hx.2.1 (str_of hx hk).2.2 hS hx.2.2.2.1 (hx.2.2.2.2.1 _ hw) (fun _ h => h) hd k0
  · unfold sV
    rw [if_neg hk]
    exact w_gR (C := RJ0) (Tt := TJ0) (N := 4) (ty := tyJ0) hx hd ⟨cf17, by decide, by decide, trivial, rfl⟩ (Or.inl ⟨_, hw, Or.inl rfl⟩) hq kk
theorem j_sC (hx : On x cc own d) {i a : Nat} {K : Int32 → Option ρ} (hw : Cond.fieldLink own i "java/lang/String" "coder" "B" ∈ TB) (hd : decode cc pc = .ok (.getfield i, 3)) (hq : pc + 3 = q) (kk : ∀ v, J x q lv (.int v :: st) h (K v) T) : J x pc lv (vR x.2.2.2 a :: st) h ((sC a h).bind K) T := by
  by_cases hk : 10 ≤ a ∧ a < 34
  · unfold sC
    rw [if_pos hk]
    subst hq
    refine J.rd hx (fun hx H locs ls ce sl hP hS k0 => ?_) (kk _)
    rw [vR_pos (show a ≠ 0 by omega)]
    exact vk_getf hx.1 hx.2.1 (str_of hx hk).2.1 hS hx.2.2.2.1 (hx.2.2.2.2.1 _ hw) (fun _ h => h) hd k0
  · unfold sC
    rw [if_neg hk]
    exact w_gI (C := RJ0) (Tt := TJ0) (N := 4) (ty := tyJ0) hx hd ⟨cf17, by decide, by decide, trivial, rfl⟩ (Or.inl ⟨_, hw, Or.inl rfl⟩) hq kk
theorem ofT {w : Wd} {U : State} {H0 H : Heap} {locs : List Loc} {t N : Nat} {f : Nat → Value} {ty : FieldType} (hS : va_S (wArea w) H0 H locs) (h : va_T ty t N f (wArea w) U H0) : ∃ cell : Cell, H[t]? = some cell ∧ U.isArrayOf cell ty ∧ cell.vm ≠ .unknown ∧ N ≤ cell.slots.size ∧ cell.slots.size.toInt32 = Int32.ofNat N ∧ ∀ j, j < N → cell.slots[j]? = some (f j) := by
  obtain ⟨cell, r1, r2, r3, r4, r5, r6, r7⟩ := h
  exact ⟨cell, by rw [hS.2.1 _ (Array.getElem?_eq_some_iff.mp r1).1 r7]; exact r1, r2, r3, r4, r5, r6⟩
theorem bOk_cases {a : Nat} (hk : bOk a h = true) : (40 ≤ a ∧ a < 64) ∨ a = 5 ∨ a = 6 ∨ (hpS h a).1 = 53 := by
  unfold bOk at hk
  simpa using hk
/-- the cell of bytes -/
theorem byc (hx : Ok x cc own d) {H : Heap} {locs : List Loc} (hP : hOk x.2.2.2 h H) (hS : va_S (wArea x.2.2.2) x.1.2.2.2.2.1.heap H locs) {a : Nat} (hk : bOk a h = true) : a ≠ 0 ∧ ∃ cell : Cell, H[adr x.2.2.2 a]? = some cell ∧ x.1.2.2.2.2.1.isArrayOf cell .byte ∧ cell.vm ≠ .unknown ∧ bN a h ≤ cell.slots.size ∧ cell.slots.size.toInt32 = Int32.ofNat (bN a h) ∧ ∀ j, j < bN a h → cell.slots[j]? = some (.int (bAt a h j)) := by
  have c1 : (40 ≤ a ∧ a < 64) → a ≠ 0 ∧ ∃ cell : Cell, H[adr x.2.2.2 a]? = some cell ∧ x.1.2.2.2.2.1.isArrayOf cell .byte ∧ cell.vm ≠ .unknown ∧ bN a h ≤ cell.slots.size ∧ cell.slots.size.toInt32 = Int32.ofNat (bN a h) ∧ ∀ j, j < bN a h → cell.slots[j]? = some (.int (bAt a h j)) := by
    intro ha
    obtain ⟨-, -, -, hT⟩ := hx.2.2.2.2.2.2.2.2.2.2.2.2.2.2.2.1 (a - 40) (by omega)
    rw [show 40 + (a - 40) = a by omega] at hT
    refine ⟨by omega, ?_⟩
    have e1 : bN a h = zLen (a - 40) := if_pos ha
    have e2 : bAt a h = zByte (a - 40) := by funext j; exact if_pos ha
    rw [e1, e2]
    exact ofT hS hT
  rcases bOk_cases hk with ha | ha | ha | ha
  · exact c1 ha
  · subst ha
    refine ⟨by omega, ?_⟩
    have e1 : bN 5 h = 100 := rfl
    have e2 : bAt 5 h = dgT := by funext j; rfl
    rw [e1, e2]
    exact ofT hS hx.2.2.2.2.2.2.2.2.2.2.2.2.1.2.2.2.1
  · subst ha
    refine ⟨by omega, ?_⟩
    have e1 : bN 6 h = 100 := rfl
    have e2 : bAt 6 h = dgO := by funext j; rfl
    rw [e1, e2]
    exact ofT hS hx.2.2.2.2.2.2.2.2.2.2.2.2.1.2.2.2.2.2.1
  · obtain ⟨h100, hb, ho⟩ := arr_of (a := a) hP (by omega) (by omega) ha
    have e1 : bN a h = (hpS h a).2 := by
      unfold bN
      rw [if_neg (by omega), if_neg (by omega), if_neg (by omega)]
    have e2 : bAt a h = hpI h a := by
      funext j
      unfold bAt
      rw [if_neg (by omega), if_neg (by omega), if_neg (by omega)]
    rw [e1, e2]
    refine ⟨by omega, _, ho, tyOf hx 3 rfl _ _, (fun q => by cases q), Nat.le_of_eq (arrV_size _ _ _).symm, by rw [arrV_size], fun j hj => ?_⟩
    rw [arrV_read _ _ hj, arw_I (by omega) (by omega)]
theorem j_bLn (hx : On x cc own d) {a : Nat} {K : Int32 → Option ρ} (hd : decode cc pc = .ok (.arraylength, 1)) (hq : pc + 1 = q) (kk : ∀ v, J x q lv (.int v :: st) h (K v) T) : J x pc lv (vR x.2.2.2 a :: st) h ((bLn a h).bind K) T := by
  subst hq
  refine J.ite fun hk => J.rd hx (fun hx H locs ls ce sl hP hS k0 => ?_) (kk _)
  obtain ⟨h0, cell, r1, r2, r3, r4, r5, r6⟩ := byc hx hP hS hk
  rw [vR_pos h0]
  exact W.alen hx.1 hx.2.1 r1 r2 r5 rfl rfl hd k0
theorem j_bLd (hx : On x cc own d) {a : Nat} {i : Int32} {K : Int32 → Option ρ} (hd : decode cc pc = .ok (.baload, 1)) (hq : pc + 1 = q) (kk : ∀ v, J x q lv (.int v :: st) h (K v) T) : J x pc lv (.int i :: vR x.2.2.2 a :: st) h ((bLd a i h).bind K) T := by
  subst hq
  refine J.ite fun hk => J.rd hx (fun hx H locs ls ce sl hP hS k0 => ?_) (kk _)
  obtain ⟨hk1, hk2⟩ := hk
  have hlt := ix_lt hk2
  obtain ⟨h0, cell, r1, r2, r3, r4, r5, r6⟩ := byc hx hP hS hk1
  rw [vR_pos h0]
  exact W.bald hx.1 hx.2.1 r1 r2 r3 (fun e => by rcases e with e | e; exact inB_vp hk2 (Or.inl e); exact inB_vp hk2 (Or.inr (Nat.le_trans r4 e))) (r6 _ hlt) rfl rfl hd k0
theorem w_stB (hx : On x cc own d) {a : Nat} {i v : Int32} {K : Hp → Option ρ} (hd : decode cc pc = .ok (.bastore, 1)) (hq : pc + 1 = q)
    (kk : ∀ h', J x q lv st h' (K h') T) : J x pc lv (.int v :: .int i :: vR x.2.2.2 a :: st) h ((stB a i v h).bind K) T := by
  subst hq
  refine J.ite2 fun hk => J.wr (h' := upI h a (ixN i) v) hx rfl rfl (fun hx H locs ls ce sl hP hS k0 => ?_) (kk _)
  obtain ⟨hk, hz⟩ := hk
  obtain ⟨ha, hb, ho⟩ := arr_of hP (by omega) (by omega) hk.1
  rw [vR_pos (by omega)]
  refine W.bast hx.1 hx.2.1 ho (tyOf hx 3 rfl _ _) (fun q => by cases q) (by rw [arrV_size]; exact inB_vp hk.2) rfl rfl hd fun H1 e1 e2 e3 => k0 H1 _ (hP.upI ha e2 e3 fun _ => hCell.arr (kd := 53) (by omega) hk.1 (by rw [e1, okB_n hz, arrV_store]; rfl) fun j => ?_) (hS.put e2 e3 (adr_area ha))
  rw [arw_I (by omega) (by omega), arw_I (by omega) (by omega)]
  show (if j = ixN i then Value.int v else Value.int (hpI h a j)) = Value.int (up2 h.2.1 a (ixN i) v a j)
  rw [up2_at]
  by_cases e : j = ixN i
  · rw [if_pos e, if_pos e]
  · rw [if_neg e, if_neg e]; rfl
theorem w_sB (hx : On x cc own d) {c k i a N : Nat} {v : Int32} {C : String} {Tt : u_T} {ty : Nat → FieldType} {K : Hp → Option ρ} (hd : decode cc pc = .ok (.putfield i, 3)) (f : FI c C Tt N ty k 0) (hty : ty k = .byte) (lk : LK own i C Tt k) (hf : FN x own i C Tt k) (hq : pc + 3 = q)
    (kk : ∀ h', J x q lv st h' (K h') T) : J x pc lv (.int v :: vR x.2.2.2 a :: st) h ((sB c k a v h).bind K) T := by
  subst hq
  refine J.ite2 fun hk => wrF (h' := upI h a k v) hx f.1 f.2.1 f.2.2.1 hd lk f.2.2.2.1 hf hk.1 (by rw [hty]; exact okB_n hk.2) (by rw [hty]; exact okB_f hk.2) rfl rfl (fun H H1 hP ha z o hO => ?_) (kk _)
  exact hP.upI ha z o fun _ => hCell.obj f.1 f.2.1 hk.1 hO (slv_upI (by rw [hty]; rfl))
theorem j_gsC (hx : On x cc own d) {i : Nat} {K : Option ρ} (hd : decode cc pc = .ok (.getstatic i, 3)) (hw : Cond.fieldLink own i "java/lang/String" "COMPACT_STRINGS" "Z" ∈ TB) (hq : pc + 3 = q) (kk : J x q lv (.int 1 :: st) h K T) : J x pc lv st h K T := by
  subst hq
  exact J.rd hx (fun hx H locs ls ce sl hP hS k0 => va_gets hx.1 hx.2.1 hx.2.2.2.2.2.2.2.2.2.2.2.2.2.1 hS hx.2.2.2.1 (hx.2.2.2.2.1 _ hw) (fun _ h => h) hd k0) kk
theorem j_gsF (hx : On x cc own d) {i : Nat} {K : Option ρ} (hd : decode cc pc = .ok (.getstatic i, 3)) (hw : Cond.fieldLink own i "jdk/internal/util/Preconditions" "SIOOBE_FORMATTER" "Ljava/util/function/BiFunction;" ∈ TB) (hq : pc + 3 = q) (kk : J x q lv (vR x.2.2.2 (hpR (wRo x.2.2.2) 1000 0) :: st) h K T) : J x pc lv st h K T := by
  subst hq
  exact J.rd hx (fun hx H locs ls ce sl hP hS k0 => va_gets hx.1 hx.2.1 hx.2.2.2.2.2.2.2.2.2.2.2.2.2.2.1 hS hx.2.2.2.1 (hx.2.2.2.2.1 _ hw) (fun _ h => h) hd k0) kk
/-- a String's cell, for its own methods -/
theorem str_cell (hx : Ok x cc own d) {H : Heap} {locs : List Loc} (hP : hOk x.2.2.2 h H) (hS : va_S (wArea x.2.2.2) x.1.2.2.2.2.1.heap H locs) {a : Nat} (hk : isStr a h) : a ≠ 0 ∧ ∃ cellB : Cell, H[adr x.2.2.2 a]? = some cellB ∧ cellB.vm.isStatics = false ∧ x.1.2.2.2.2.1.vm.findClass "java/lang/String" = some cellB.cls := by
  rcases hk with hk | hk
  · obtain ⟨cell, q1, q2, q3, q4⟩ := (str_of hx hk).1
    exact ⟨by omega, cell, by rw [hS.2.1 _ (Array.getElem?_eq_some_iff.mp q1).1 q4]; exact q1, q2, q3⟩
  · obtain ⟨ha, hb, cell, q1, q2, q3, -⟩ := obj_of hP cf17 (by omega) hk
    exact ⟨by omega, cell, q1, by rw [q3]; rfl, by rw [q2]; exact (hx.2.2.2.2.2.2.1.1.1 17 _ (cls_fst cf17)).2.1⟩
theorem j_callStr {mi : Mi} {σ : Type} {F : Option σ} {hp : σ → Hp} {rs : σ → Option Value} {K : σ → Option ρ} {i d' n a : Nat} {As : List Value} (hx : On x cc own d) (hd : decode cc pc = .ok (.invokevirtual i, 3)) (cw : cIn mi own i d d' n) (cs : Cond.instanceMethod mi.1 ∈ TB ∧ Cond.selects "java/lang/String" mi.1 mi.1 ∈ TB) (hn : As.length = n)
    (hM : ∀ u, F = some u → M1 x.1.2.1 x.2.2.2 mi d' (vR x.2.2.2 a :: As) h (hp u) (rs u)) (hC : mi.1.cls = "java/lang/String") (hk : F ≠ none → isStr a h) (hst : (st.map fun v => v.category).sum ≤ 8) (hq : pc + 3 = q)
    (kk : ∀ u, J x q lv ((rs u).toList ++ st) (hp u) (K u) T) : J x pc lv (As.reverse ++ vR x.2.2.2 a :: st) h (F.bind K) T := by
  refine bindK fun u hu => ?_
  obtain ⟨hle, hMet⟩ := hM u hu
  have hk := hk (by rw [hu]; exact fun z => by cases z)
  have e0 : (st.map (fun v => ((0 : Nat), v))).map Prod.snd = st := by rw [List.map_map]; exact List.map_id' st
  have h0 : a ≠ 0 ∨ (hpS h 0).1 = 18 := by
    rcases hk with hk | hk
    · exact Or.inl (by omega)
    · by_cases e : a = 0
      · subst e; exact Or.inr hk
      · exact Or.inl e
  refine j_run (lv' := st.map (fun v => (0, v))) (n := 0) (res := rs u) (avs := (vR x.2.2.2 a :: As).toArray) hx (hle ⟨x⟩) (fun hx H locs ls ce sl hls hP hS c1 c2 hU => ?_) hq (by rw [e0]; exact kk u)
  rw [e0]
  obtain ⟨ha0, hrecv⟩ := str_cell hx hP hS hk
  have hpos : vR x.2.2.2 a = .ref (adr x.2.2.2 a) := vR_pos ha0
  rw [hpos] at hMet ⊢
  obtain ⟨g1, g2, g3, g4, g5, g6⟩ := cw
  have hpre : PreV x.1.2.2.2.2.1 H "java/lang/String" (adr x.2.2.2 a) (pcM x.2.2.2 (.ref (adr x.2.2.2 a) :: As) h) As := ⟨pcM_blind, hrecv, fun U hU1 hW => ⟨rfl, hU U hU1 hW⟩⟩
  rcases g5 with g5 | ⟨host, g5⟩
  · exact va_runV (fixOf hx) hMet ⟨cwOf hx g1 g2 g3 g4 i g5 g6, hx.2.2.2.2.1 _ cs.1, hx.2.2.2.2.1 _ cs.2⟩ hpre rfl hn hls rfl (lv_room hst) hd ⟨c1, c2⟩
  · exact va_runVN (fixOf hx) hMet ⟨cnOf hx g1 g2 g3 g4 i g5 g6, hx.2.2.2.2.1 _ cs.1, hx.2.2.2.2.1 _ cs.2⟩ hpre rfl hn hls rfl (lv_room hst) hd ⟨c1, c2⟩
/-- a byte or a char comes out -/
theorem r_nR (hx : On x cc own d) {u v : Int32} {ty : FieldType} (R : Rt x h h (some (.int u)) (some ty)) (hd : decode cc pc = .ok (.ireturn, 1)) : J x pc lv [.int v] h (zN ty v) (fun r => r = u) := by
  intro r' hr' hT
  by_cases hz : narrow ty (.int v) = .int v
  · rw [show zN ty v = some v from if_pos hz] at hr'
    have hr' : v = r' := Option.some.inj hr'
    subst hr'
    subst hT
    obtain ⟨h0e, hfe, hr, hQ⟩ := R
    refine ⟨by rw [hfe]; exact hLe.rf, fun hok H locs ls hl hP hS hh => ?_⟩
    obtain ⟨rfl, rfl, rfl⟩ := hx
    have hx := hok
    rw [hQ, h0e]
    have hlocks := hx.2.2.2.2.2.1
    have hr := hx.2.2.2.2.2.2.2.1.1.trans hr
    exact W.zret hx.1 hx.2.1 hr hz (fun t ht hW => ⟨rfl, by rw [ht]; exact hP, hS.F ht⟩) hS.2.2 hd hlocks
  · rw [show zN ty v = none from if_neg hz] at hr'; cases hr'
end SR
