/-! String constants: the i-th at 10 + i, its bytes at 40 + i -/
def strV (a : Nat) : Option Nat := if 10 ≤ a ∧ a < 23 then some (a + 30) else none
def strC (a : Nat) : Option Int32 := if 10 ≤ a ∧ a < 23 then some 0 else none
def bLen (a : Nat) : Option Int32 := if 40 ≤ a ∧ a < 53 then some (Int32.ofNat (sLen (a - 40))) else none
def ldB (a : Nat) (i : Int32) : Option Int32 := if (40 ≤ a ∧ a < 53) ∧ inB i (sLen (a - 40)) = true then some (sByte (a - 40) (ixN i)) else none
def zN (ty : FieldType) (v : Int32) : Option Int32 := if narrow ty (.int v) = .int v then some v else none
section SR
variable {x : Cx} {cc : ByteArray} {own : String} {d pc q : Nat} {lv lv' : List (Nat × Value)} {st : List Value} {h : Hp} {ρ : Type} {T : ρ → Prop}
theorem j_ldcS (hx : On x cc own d) {i a : Nat} {tx : String} {K : Option ρ} (hw : (own, i, tx, a) ∈ strs0) (hd : decode cc pc = .ok (.ldc i, 2)) (hq : pc + 2 = q) (kk : J x q lv (vR x.2.2.2 (10 + a) :: st) h K T) : J x pc lv st h K T := by
  subst hq
  rw [vR_pos (by omega)] at kk
  exact J.step hx (fun hx H locs ls ce sl h0 k0 => va_ldcS hx.1 hx.2.1 hx.2.2.2.1 (hx.2.2.2.2.2.2.2.2.2.2.2.2.2.2.2.2.1 _ hw) hd (k0 ls h0)) kk
theorem str_of (hx : Ok x cc own d) {a : Nat} (ha : 10 ≤ a ∧ a < 23) : va_O "java/lang/String" (adr x.2.2.2 a) (wArea x.2.2.2) x.1.2.2.2.2.1 x.1.2.2.2.2.1.heap ∧ va_OF "java/lang/String" "coder" "B" (.int 0) (adr x.2.2.2 a) (wArea x.2.2.2) x.1.2.2.2.2.1 x.1.2.2.2.2.1.heap ∧ va_OF "java/lang/String" "value" "[B" (.ref (adr x.2.2.2 (a + 30))) (adr x.2.2.2 a) (wArea x.2.2.2) x.1.2.2.2.2.1 x.1.2.2.2.2.1.heap := by
  obtain ⟨h1, h2, h3, -⟩ := hx.2.2.2.2.2.2.2.2.2.2.2.2.2.2.2.1 (a - 10) (by omega)
  rw [show 10 + (a - 10) = a by omega, show 40 + (a - 10) = a + 30 by omega] at *
  exact ⟨h1, h2, h3⟩
theorem j_strV (hx : On x cc own d) {i a : Nat} {K : Nat → Option ρ} (hw : Cond.fieldLink own i "java/lang/String" "value" "[B" ∈ TB) (hd : decode cc pc = .ok (.getfield i, 3)) (hq : pc + 3 = q) (kk : ∀ v, J x q lv (vR x.2.2.2 v :: st) h (K v) T) : J x pc lv (vR x.2.2.2 a :: st) h ((strV a).bind K) T := by
  subst hq
  refine J.ite fun hk => J.rd hx (fun hx H locs ls ce sl hP hS k0 => ?_) (kk _)
  rw [vR_pos (show a ≠ 0 by omega)]
  rw [vR_pos (show a + 30 ≠ 0 by omega)] at k0
  exact vk_getf hx.1 hx.2.1 (str_of hx hk).2.2 hS hx.2.2.2.1 (hx.2.2.2.2.1 _ hw) (fun _ h => h) hd k0
theorem j_strC (hx : On x cc own d) {i a : Nat} {K : Int32 → Option ρ} (hw : Cond.fieldLink own i "java/lang/String" "coder" "B" ∈ TB) (hd : decode cc pc = .ok (.getfield i, 3)) (hq : pc + 3 = q) (kk : ∀ v, J x q lv (.int v :: st) h (K v) T) : J x pc lv (vR x.2.2.2 a :: st) h ((strC a).bind K) T := by
  subst hq
  refine J.ite fun hk => J.rd hx (fun hx H locs ls ce sl hP hS k0 => ?_) (kk _)
  rw [vR_pos (show a ≠ 0 by omega)]
  exact vk_getf hx.1 hx.2.1 (str_of hx hk).2.1 hS hx.2.2.2.1 (hx.2.2.2.2.1 _ hw) (fun _ h => h) hd k0
theorem byt_of (hx : Ok x cc own d) {H : Heap} {locs : List Loc} (hS : va_S (wArea x.2.2.2) x.1.2.2.2.2.1.heap H locs) {a : Nat} (ha : 40 ≤ a ∧ a < 53) : ∃ cell : Cell, H[adr x.2.2.2 a]? = some cell ∧ x.1.2.2.2.2.1.isArrayOf cell .byte ∧ cell.vm ≠ .unknown ∧ sLen (a - 40) ≤ cell.slots.size ∧ cell.slots.size.toInt32 = Int32.ofNat (sLen (a - 40)) ∧ ∀ j, j < sLen (a - 40) → cell.slots[j]? = some (.int (sByte (a - 40) j)) := by
  obtain ⟨-, -, -, cell, r1, r2, r3, r4, r5, r6, r7⟩ := hx.2.2.2.2.2.2.2.2.2.2.2.2.2.2.2.1 (a - 40) (by omega)
  rw [show 40 + (a - 40) = a by omega] at r1 r7
  exact ⟨cell, by rw [hS.2.1 _ (Array.getElem?_eq_some_iff.mp r1).1 r7]; exact r1, r2, r3, r4, r5, r6⟩
theorem j_bLen (hx : On x cc own d) {a : Nat} {K : Int32 → Option ρ} (hd : decode cc pc = .ok (.arraylength, 1)) (hq : pc + 1 = q) (kk : ∀ v, J x q lv (.int v :: st) h (K v) T) : J x pc lv (vR x.2.2.2 a :: st) h ((bLen a).bind K) T := by
  subst hq
  refine J.ite fun hk => J.rd hx (fun hx H locs ls ce sl hP hS k0 => ?_) (kk _)
  rw [vR_pos (show a ≠ 0 by omega)]
  obtain ⟨cell, r1, r2, r3, r4, r5, r6⟩ := byt_of hx hS hk
  exact W.alen hx.1 hx.2.1 r1 r2 r5 rfl rfl hd k0
theorem j_ldB (hx : On x cc own d) {a : Nat} {i : Int32} {K : Int32 → Option ρ} (hd : decode cc pc = .ok (.baload, 1)) (hq : pc + 1 = q) (kk : ∀ v, J x q lv (.int v :: st) h (K v) T) : J x pc lv (.int i :: vR x.2.2.2 a :: st) h ((ldB a i).bind K) T := by
  subst hq
  refine J.ite fun hk => J.rd hx (fun hx H locs ls ce sl hP hS k0 => ?_) (kk _)
  obtain ⟨hk1, hk2⟩ := hk
  have hlt := ix_lt hk2
  rw [vR_pos (show a ≠ 0 by omega)]
  obtain ⟨cell, r1, r2, r3, r4, r5, r6⟩ := byt_of hx hS hk1
  exact W.bald hx.1 hx.2.1 r1 r2 r3 (fun e => by rcases e with e | e; exact inB_vp hk2 (Or.inl e); exact inB_vp hk2 (Or.inr (Nat.le_trans r4 e))) (r6 _ hlt) rfl rfl hd k0
theorem j_gsC (hx : On x cc own d) {i : Nat} {K : Option ρ} (hd : decode cc pc = .ok (.getstatic i, 3)) (hw : Cond.fieldLink own i "java/lang/String" "COMPACT_STRINGS" "Z" ∈ TB) (hq : pc + 3 = q) (kk : J x q lv (.int 1 :: st) h K T) : J x pc lv st h K T := by
  subst hq
  exact J.rd hx (fun hx H locs ls ce sl hP hS k0 => va_gets hx.1 hx.2.1 hx.2.2.2.2.2.2.2.2.2.2.2.2.2.1 hS hx.2.2.2.1 (hx.2.2.2.2.1 _ hw) (fun _ h => h) hd k0) kk
theorem j_gsF (hx : On x cc own d) {i : Nat} {K : Option ρ} (hd : decode cc pc = .ok (.getstatic i, 3)) (hw : Cond.fieldLink own i "jdk/internal/util/Preconditions" "SIOOBE_FORMATTER" "Ljava/util/function/BiFunction;" ∈ TB) (hq : pc + 3 = q) (kk : J x q lv (vR x.2.2.2 (hpR (wRo x.2.2.2) 1000 0) :: st) h K T) : J x pc lv st h K T := by
  subst hq
  exact J.rd hx (fun hx H locs ls ce sl hP hS k0 => va_gets hx.1 hx.2.1 hx.2.2.2.2.2.2.2.2.2.2.2.2.2.2.1 hS hx.2.2.2.1 (hx.2.2.2.2.1 _ hw) (fun _ h => h) hd k0) kk
theorem w_cVSI {mi : Mi} {F : Option Int32} {K : Int32 → Option ρ} {i d' n a : Nat} {As : List Value} (hx : On x cc own d) (hd : decode cc pc = .ok (.invokevirtual i, 3)) (hC : mi.1.cls = "java/lang/String") (cw : cIn mi own i d d' n) (cs : Cond.instanceMethod mi.1 ∈ TB ∧ Cond.selects "java/lang/String" mi.1 mi.1 ∈ TB) (hn : As.length = n)
    (hM : ∀ u, F = some u → M1 x.1.2.1 x.2.2.2 mi d' (vR x.2.2.2 a :: As) h h (some (.int u))) (hk : F ≠ none → 10 ≤ a ∧ a < 23) (hst : (st.map fun v => v.category).sum ≤ 8) (hq : pc + 3 = q) (kk : ∀ v, J x q lv (.int v :: st) h (K v) T) : J x pc lv (As.reverse ++ vR x.2.2.2 a :: st) h (F.bind K) T := by
  refine bindK fun u hu => ?_
  obtain ⟨hle, hMet⟩ := hM u hu
  have hk := hk (by rw [hu]; exact fun z => by cases z)
  have e0 : (st.map (fun v => ((0 : Nat), v))).map Prod.snd = st := by rw [List.map_map]; exact List.map_id' st
  refine j_run (lv' := st.map (fun v => (0, v))) (n := 0) (res := some (.int u)) (avs := (vR x.2.2.2 a :: As).toArray) hx (hle ⟨x⟩) (fun hx H locs ls ce sl hls hP hS c1 c2 hU => ?_) hq (by rw [e0]; exact kk u)
  rw [e0]
  have hpos : vR x.2.2.2 a = .ref (adr x.2.2.2 a) := vR_pos (by omega)
  rw [hpos] at hMet ⊢
  obtain ⟨g1, g2, g3, g4, g5, g6⟩ := cw
  obtain ⟨cell, q1, q2, q3, q4⟩ := (str_of hx hk).1
  have hrecv : ∃ cellB : Cell, H[adr x.2.2.2 a]? = some cellB ∧ cellB.vm.isStatics = false ∧ x.1.2.2.2.2.1.vm.findClass "java/lang/String" = some cellB.cls := ⟨cell, by rw [hS.2.1 _ (Array.getElem?_eq_some_iff.mp q1).1 q4]; exact q1, q2, q3⟩
  have hpre : PreV x.1.2.2.2.2.1 H "java/lang/String" (adr x.2.2.2 a) (pcM x.2.2.2 (.ref (adr x.2.2.2 a) :: As) h) As := ⟨pcM_blind, hrecv, fun U hU1 hW => ⟨rfl, hU U hU1 hW⟩⟩
  rcases g5 with g5 | ⟨host, g5⟩
  · exact va_runV (fixOf hx) hMet ⟨cwOf hx g1 g2 g3 g4 i g5 g6, hx.2.2.2.2.1 _ cs.1, hx.2.2.2.2.1 _ cs.2⟩ hpre rfl hn hls rfl (lv_room hst) hd ⟨c1, c2⟩
  · exact va_runVN (fixOf hx) hMet ⟨cnOf hx g1 g2 g3 g4 i g5 g6, hx.2.2.2.2.1 _ cs.1, hx.2.2.2.2.1 _ cs.2⟩ hpre rfl hn hls rfl (lv_room hst) hd ⟨c1, c2⟩
/-- a byte or a char comes out -/
theorem r_nR (hx : On x cc own d) {u v : Int32} {ty : FieldType} (R : Rt x h h (some (.int u)) (some ty)) (hd : decode cc pc = .ok (.ireturn, 1)) : J x pc lv [.int v] h (zN ty v) (fun r => r = u) := by
  intro r' hr' hT
  by_cases hz : narrow ty (.int v) = .int v
  · rw [show zN ty v = some v from if_pos hz] at hr'
    have hr' : v = r' := Option.some.inj hr'
    subst hr'
    subst hT
    obtain ⟨h0e, hfe, hr, hQ⟩ := R
    refine ⟨by rw [hfe]; exact hLe.rf, fun hok H locs ls hl hP hS hh => ?_⟩
    obtain ⟨rfl, rfl, rfl⟩ := hx
    have hx := hok
    rw [hQ, h0e]
    have hlocks := hx.2.2.2.2.2.1
    have hr := hx.2.2.2.2.2.2.2.1.1.trans hr
    exact W.zret hx.1 hx.2.1 hr hz (fun t ht hW => ⟨rfl, by rw [ht]; exact hP, hS.F ht⟩) hS.2.2 hd hlocks
  · rw [show zN ty v = none from if_neg hz] at hr'; cases hr'
end SR
