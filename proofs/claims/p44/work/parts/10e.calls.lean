/-! calls of what is inherited or overridden, of a superclass's method, through an interface; rows of bytes copied -/
section CX
variable {x : Cx} {cc : ByteArray} {own : String} {d pc q : Nat} {lv lv' : List (Nat × Value)} {st : List Value} {h : Hp} {ρ : Type} {T : ρ → Prop}
abbrev cUn (mi : Mi) (own : String) (i d d' n : Nat) (xn : MethodName) (C : String) : Prop :=
  (Cond.code mi.1 mi.2.1 mi.2.2.1 mi.2.2.2 ∈ TB ∧ Cond.initialized mi.1.cls ∈ TB ∧ d' + 1 ≤ d ∧ mi.2.2.1 ≤ 45) ∧
  (Cond.methodLink own i xn ∈ TB ∧ Cond.sameMethod xn.cls xn.cls xn.name xn.desc ∈ TB ∧ Cond.selects C xn mi.1 ∈ TB ∧ Cond.instanceMethod mi.1 ∈ TB) ∧
  (mi.1 = xn ∨ (Cond.instanceMethod xn ∈ TB ∧ ∃ b0 m0 r0, Cond.code xn b0 m0 r0 ∈ TB)) ∧
  (xn.cls ≠ "java/lang/invoke/MethodHandle" ∧ xn.cls ≠ "java/lang/invoke/VarHandle" ∧ (parseMethodDescriptor xn.desc).map (fun d => d.parameters.length) = some n)
theorem wsM_good {mi : Mi} (hcw : Cond.code mi.1 mi.2.1 mi.2.2.1 mi.2.2.2 ∈ TB) : GoodIn TB (wsM mi) := by
  intro w hw
  rcases List.mem_cons.mp hw with e | e
  · rw [e]; exact TB_good _ hcw
  · exact TB_good _ e
theorem cuOf {mi : Mi} {d' n i : Nat} {h' : Hp} {xn : MethodName} {C : String} (hx : Ok x cc own d) (hc : cUn mi own i d d' n xn C) :
    va_CU x.1.2.2.2.1 x.1.2.2.2.2.1 x.2.1.1 own C xn.cls i xn mi.1 mi.2.1 mi.2.2.1 mi.2.2.2 (wsM mi) (rmM d' h h') (hpN h' - hpN h) (hpM h' - hpM h) n := by
  obtain ⟨⟨g1, g2, g3, g4⟩, ⟨l1, l2, l3, l4⟩, g5, g6⟩ := hc
  have hG := wsM_good g1
  obtain ⟨r1, r2, -, -⟩ := hx.2.2.2.2.2.2.2.2.1
  rcases g5 with g5 | ⟨o1, b0, m0, r0, o2⟩
  · refine va_cwU n hx.2.2.2.2.1 (fun w hw => ?_) rfl rfl rfl (by rw [g5]) g6 ⟨?_, ?_⟩
    · unfold va_wsU at hw
      rcases List.mem_append.mp hw with e | e
      · simp only [List.mem_cons, List.not_mem_nil, or_false] at e
        rcases e with rfl | rfl | rfl | rfl | rfl
        · exact TB_good _ l1
        · exact TB_good _ l2
        · exact TB_good _ l3
        · exact TB_good _ l4
        · exact TB_good _ g2
      · exact hG _ e
    · show d' + 1 ≤ _; omega
    · show 8 + (mi.2.2.1 + 11) + 64 * d' ≤ _; omega
  · refine va_cwO n hx.2.2.2.2.1 (fun w hw => ?_) rfl rfl rfl o2 g6 ⟨?_, ?_⟩
    · unfold va_wsO at hw
      rcases List.mem_append.mp hw with e | e
      · simp only [List.mem_cons, List.not_mem_nil, or_false] at e
        rcases e with rfl | rfl | rfl | rfl | rfl | rfl
        · exact TB_good _ l1
        · exact TB_good _ l2
        · exact TB_good _ o1
        · exact TB_good _ l3
        · exact TB_good _ l4
        · exact TB_good _ g2
      · exact hG _ e
    · show d' + 1 ≤ _; omega
    · show 8 + (mi.2.2.1 + 11) + 64 * d' ≤ _; omega
theorem obj_recv (hx : Ok x cc own d) {H : Heap} {a c N : Nat} {C : String} {Tt : u_T} {ty : Nat → FieldType} (hP : hOk x.2.2.2 h H) (hF : CF c C Tt N ty) (hc : c + 1 < 50) (hk : (hpS h a).1 = c + 1) :
    a ≠ 0 ∧ ∃ cellB : Cell, H[adr x.2.2.2 a]? = some cellB ∧ cellB.vm.isStatics = false ∧ x.1.2.2.2.2.1.vm.findClass C = some cellB.cls := by
  obtain ⟨ha, hb, cell, q1, q2, q3, -⟩ := obj_of hP hF hc hk
  exact ⟨by omega, cell, q1, by rw [q3]; rfl, by rw [q2]; exact (hx.2.2.2.2.2.2.1.1.1 c _ (cls_fst hF)).2.1⟩
theorem j_callU {mi : Mi} {xn : MethodName} {σ : Type} {F : Option σ} {hp : σ → Hp} {rs : σ → Option Value} {K : σ → Option ρ} {i d' n a c N : Nat} {C : String} {Tt : u_T} {ty : Nat → FieldType} {As : List Value} (hx : On x cc own d) (hd : decode cc pc = .ok (.invokevirtual i, 3))
    (hF : CF c C Tt N ty) (hc : c + 1 < 50) (cw : cUn mi own i d d' n xn C) (hn : As.length = n)
    (hM : ∀ u, F = some u → M1 x.1.2.1 x.2.2.2 mi d' (vR x.2.2.2 a :: As) h (hp u) (rs u)) (hk : F ≠ none → (hpS h a).1 = c + 1) (hst : (st.map fun v => v.category).sum ≤ 8) (hq : pc + 3 = q)
    (kk : ∀ u, J x q lv ((rs u).toList ++ st) (hp u) (K u) T) : J x pc lv (As.reverse ++ vR x.2.2.2 a :: st) h (F.bind K) T := by
  refine bindK fun u hu => ?_
  obtain ⟨hle, hMet⟩ := hM u hu
  have hk := hk (by rw [hu]; exact fun z => by cases z)
  have e0 : (st.map (fun v => ((0 : Nat), v))).map Prod.snd = st := by rw [List.map_map]; exact List.map_id' st
  refine j_run (lv' := st.map (fun v => (0, v))) (n := 0) (res := rs u) (avs := (vR x.2.2.2 a :: As).toArray) hx (hle ⟨x⟩) (fun hx H locs ls ce sl hls hP hS c1 c2 hU => ?_) hq (by rw [e0]; exact kk u)
  rw [e0]
  obtain ⟨ha0, hrecv⟩ := obj_recv hx hP hF hc hk
  have hpos : vR x.2.2.2 a = .ref (adr x.2.2.2 a) := vR_pos ha0
  rw [hpos] at hMet ⊢
  have hpre : PreV x.1.2.2.2.2.1 H C (adr x.2.2.2 a) (pcM x.2.2.2 (.ref (adr x.2.2.2 a) :: As) h) As := ⟨pcM_blind, hrecv, fun U hU1 hW => ⟨rfl, hU U hU1 hW⟩⟩
  exact va_runU (fixOf hx) hMet (cuOf hx cw) hpre rfl hn hls rfl (lv_room hst) hd ⟨c1, c2⟩
/-! a superclass's method -/
abbrev cSUn (mi : Mi) (own : String) (i d d' n : Nat) : Prop :=
  (Cond.code mi.1 mi.2.1 mi.2.2.1 mi.2.2.2 ∈ TB ∧ Cond.initialized mi.1.cls ∈ TB ∧ d' + 1 ≤ d ∧ mi.2.2.1 ≤ 45) ∧
  (Cond.methodLink own i mi.1 ∈ TB ∧ Cond.sameMethod mi.1.cls mi.1.cls mi.1.name mi.1.desc ∈ TB ∧ Cond.superclass own mi.1.cls ∈ TB ∧ Cond.instanceMethod mi.1 ∈ TB) ∧
  (mi.1.name ≠ "<init>" ∧ (parseMethodDescriptor mi.1.desc).map (fun d => d.parameters.length) = some n)
theorem csOf {mi : Mi} {d' n i : Nat} {h' : Hp} (hx : Ok x cc own d) (hc : cSUn mi own i d d' n) :
    va_CS x.1.2.2.2.1 x.1.2.2.2.2.1 x.2.1.1 own i mi.1 mi.2.1 mi.2.2.1 mi.2.2.2 (wsM mi) (rmM d' h h') (hpN h' - hpN h) (hpM h' - hpM h) n := by
  obtain ⟨⟨g1, g2, g3, g4⟩, ⟨l1, l2, l3, l4⟩, g6⟩ := hc
  have hG := wsM_good g1
  obtain ⟨r1, r2, -, -⟩ := hx.2.2.2.2.2.2.2.2.1
  refine va_cwSU n hx.2.2.2.2.1 (fun w hw => ?_) rfl rfl rfl g6 ⟨?_, ?_⟩
  · unfold va_wsSU at hw
    rcases List.mem_append.mp hw with e | e
    · simp only [List.mem_cons, List.not_mem_nil, or_false] at e
      rcases e with rfl | rfl | rfl | rfl | rfl
      · exact TB_good _ l1
      · exact TB_good _ l2
      · exact TB_good _ l3
      · exact TB_good _ l4
      · exact TB_good _ g2
    · exact hG _ e
  · show d' + 1 ≤ _; omega
  · show 8 + (mi.2.2.1 + 11) + 64 * d' ≤ _; omega
theorem j_callP {mi : Mi} {σ : Type} {F : Option σ} {hp : σ → Hp} {rs : σ → Option Value} {K : σ → Option ρ} {i d' n a c N : Nat} {C : String} {Tt : u_T} {ty : Nat → FieldType} {As : List Value} (hx : On x cc own d) (hd : decode cc pc = .ok (.invokespecial i, 3))
    (hF : CF c C Tt N ty) (hc : c + 1 < 50) (cw : cSUn mi own i d d' n) (hn : As.length = n)
    (hM : ∀ u, F = some u → M1 x.1.2.1 x.2.2.2 mi d' (vR x.2.2.2 a :: As) h (hp u) (rs u)) (hk : F ≠ none → (hpS h a).1 = c + 1) (hst : (st.map fun v => v.category).sum ≤ 8) (hq : pc + 3 = q)
    (kk : ∀ u, J x q lv ((rs u).toList ++ st) (hp u) (K u) T) : J x pc lv (As.reverse ++ vR x.2.2.2 a :: st) h (F.bind K) T := by
  refine bindK fun u hu => ?_
  obtain ⟨hle, hMet⟩ := hM u hu
  have hk := hk (by rw [hu]; exact fun z => by cases z)
  have e0 : (st.map (fun v => ((0 : Nat), v))).map Prod.snd = st := by rw [List.map_map]; exact List.map_id' st
  refine j_run (lv' := st.map (fun v => (0, v))) (n := 0) (res := rs u) (avs := (vR x.2.2.2 a :: As).toArray) hx (hle ⟨x⟩) (fun hx H locs ls ce sl hls hP hS c1 c2 hU => ?_) hq (by rw [e0]; exact kk u)
  rw [e0]
  obtain ⟨ha0, hrecv⟩ := obj_recv hx hP hF hc hk
  have hpos : vR x.2.2.2 a = .ref (adr x.2.2.2 a) := vR_pos ha0
  rw [hpos] at hMet ⊢
  have hpre : PreV x.1.2.2.2.2.1 H C (adr x.2.2.2 a) (pcM x.2.2.2 (.ref (adr x.2.2.2 a) :: As) h) As := ⟨pcM_blind, hrecv, fun U hU1 hW => ⟨rfl, hU U hU1 hW⟩⟩
  exact va_runSU (hx.2.2.2.2.2.2.1.1.1 c _ (cls_fst hF)).2 (fixOf hx) hMet (csOf hx cw) hpre rfl hn hls rfl (lv_room hst) hd ⟨c1, c2⟩
/-! through an interface -/
abbrev cFn (mi : Mi) (own : String) (i d d' n : Nat) (xn : MethodName) (C : String) : Prop :=
  (Cond.code mi.1 mi.2.1 mi.2.2.1 mi.2.2.2 ∈ TB ∧ Cond.initialized mi.1.cls ∈ TB ∧ d' + 1 ≤ d ∧ mi.2.2.1 ≤ 45) ∧
  (Cond.methodLink own i xn ∈ TB ∧ Cond.selects C xn mi.1 ∈ TB ∧ Cond.instanceMethod mi.1 ∈ TB) ∧
  (xn.cls ≠ "java/lang/invoke/MethodHandle" ∧ xn.cls ≠ "java/lang/invoke/VarHandle" ∧ (parseMethodDescriptor xn.desc).map (fun d => d.parameters.length) = some n)
theorem cfOf {mi : Mi} {d' n i : Nat} {h' : Hp} {xn : MethodName} {C : String} (hx : Ok x cc own d) (hc : cFn mi own i d d' n xn C) (hFw : va_Fw C xn mi.1 x.1.2.2.2.2.1) :
    va_CI x.1.2.2.2.1 x.1.2.2.2.2.1 x.2.1.1 own C i xn mi.1 mi.2.1 mi.2.2.1 mi.2.2.2 (wsM mi) (rmM d' h h') (hpN h' - hpN h) (hpM h' - hpM h) n := by
  obtain ⟨⟨g1, g2, g3, g4⟩, ⟨l1, l3, l4⟩, g6⟩ := hc
  have hG := wsM_good g1
  obtain ⟨r1, r2, -, -⟩ := hx.2.2.2.2.2.2.2.2.1
  refine va_cwF n hx.2.2.2.2.1 (fun w hw => ?_) rfl rfl rfl hFw g6 ⟨?_, ?_⟩
  · unfold va_wsF at hw
    rcases List.mem_append.mp hw with e | e
    · simp only [List.mem_cons, List.not_mem_nil, or_false] at e
      rcases e with rfl | rfl | rfl | rfl
      · exact TB_good _ l1
      · exact TB_good _ l3
      · exact TB_good _ l4
      · exact TB_good _ g2
    · exact hG _ e
  · show d' + 1 ≤ _; omega
  · show 8 + (mi.2.2.1 + 11) + 64 * d' ≤ _; omega
theorem j_callF {mi : Mi} {xn : MethodName} {σ : Type} {F : Option σ} {hp : σ → Hp} {rs : σ → Option Value} {K : σ → Option ρ} {i ct d' n a c N : Nat} {C : String} {Tt : u_T} {ty : Nat → FieldType} {As : List Value} (hx : On x cc own d) (hd : decode cc pc = .ok (.invokeinterface i ct, 5))
    (hF : CF c C Tt N ty) (hc : c + 1 < 50) (cw : cFn mi own i d d' n xn C) (hFw : ∀ (w : Wd) (U : State) (H : Heap), roOk w U H → va_Fw C xn mi.1 U) (hn : As.length = n)
    (hM : ∀ u, F = some u → M1 x.1.2.1 x.2.2.2 mi d' (vR x.2.2.2 a :: As) h (hp u) (rs u)) (hk : F ≠ none → (hpS h a).1 = c + 1) (hst : (st.map fun v => v.category).sum ≤ 8) (hq : pc + 5 = q)
    (kk : ∀ u, J x q lv ((rs u).toList ++ st) (hp u) (K u) T) : J x pc lv (As.reverse ++ vR x.2.2.2 a :: st) h (F.bind K) T := by
  refine bindK fun u hu => ?_
  obtain ⟨hle, hMet⟩ := hM u hu
  have hk := hk (by rw [hu]; exact fun z => by cases z)
  have e0 : (st.map (fun v => ((0 : Nat), v))).map Prod.snd = st := by rw [List.map_map]; exact List.map_id' st
  refine j_run5 (lv' := st.map (fun v => (0, v))) (n := 0) (res := rs u) (avs := (vR x.2.2.2 a :: As).toArray) hx (hle ⟨x⟩) (fun hx H locs ls ce sl hls hP hS c1 c2 hU => ?_) hq (by rw [e0]; exact kk u)
  rw [e0]
  obtain ⟨ha0, hrecv⟩ := obj_recv hx hP hF hc hk
  have hpos : vR x.2.2.2 a = .ref (adr x.2.2.2 a) := vR_pos ha0
  rw [hpos] at hMet ⊢
  have hpre : PreV x.1.2.2.2.2.1 H C (adr x.2.2.2 a) (pcM x.2.2.2 (.ref (adr x.2.2.2 a) :: As) h) As := ⟨pcM_blind, hrecv, fun U hU1 hW => ⟨rfl, hU U hU1 hW⟩⟩
  exact va_runF (hx.2.2.2.2.2.2.1.1.1 c _ (cls_fst hF)).2 (fixOf hx) hMet (cfOf hx cw (hFw _ _ _ hx.2.2.2.2.2.2.2.2.2.2)) hpre rfl hn hls rfl (lv_room hst) hd ⟨c1, c2⟩
/-! bytes copied -/
def cpC (src : Nat) (sp : Int32) (dst : Nat) (dp n : Int32) (h : Hp) : Bool := (bOk src h && decide ((hpS h dst).1 = 53)) && (decide (¬ sp < 0) && (decide (¬ dp < 0) && decide (¬ n < 0))) && (decide (ixN sp + ixN n ≤ bN src h) && decide (ixN dp + ixN n ≤ (hpS h dst).2)) && (List.range (ixN n)).all (fun i => fits .byte (.int (bAt src h (ixN sp + i))))
def cpH (src : Nat) (sp : Int32) (dst : Nat) (dp n : Int32) (h : Hp) : Hp := (h.1, (fun b j => if b = dst then va_cpy (bAt src h) (hpI h dst) (ixN sp) (ixN dp) (ixN n) j else h.2.1 b j), h.2.2)
def cpB (src : Nat) (sp : Int32) (dst : Nat) (dp n : Int32) (h : Hp) : Option Hp := if cpC src sp dst dp n h = true then some (cpH src sp dst dp n h) else none
theorem nn32 (z : Int32) (hz : ¬ z < 0) : z.toInt = (z.toNatClampNeg : Int) := by
  have hz0 : (0 : Int) ≤ z.toInt := by
    have := Int32.not_lt.mp hz
    simpa using Int32.le_iff_toInt_le.mp this
  show z.toInt = ((z.toInt.toNat : Nat) : Int)
  omega
theorem j_cpB (hx : On x cc own d) {i src dst : Nat} {sp dp n : Int32} {K : Hp → Option ρ} (hd : decode cc pc = .ok (.invokestatic i, 3)) (hl : Cond.methodLink own i arraycopyName ∈ TB) (hw : Cond.native arraycopyName ∈ TB ∧ Cond.static arraycopyName ∈ TB ∧ Cond.initialized "java/lang/System" ∈ TB) (h1 : 1 ≤ d) (hst : (st.map fun v => v.category).sum ≤ 8) (hq : pc + 3 = q)
    (kk : ∀ h', J x q lv st h' (K h') T) : J x pc lv (.int n :: .int dp :: vR x.2.2.2 dst :: .int sp :: vR x.2.2.2 src :: st) h ((cpB src sp dst dp n h).bind K) T := by
  subst hq
  refine J.ite2 fun hk => ?_
  unfold cpC at hk
  simp only [Bool.and_eq_true, decide_eq_true_eq, List.all_eq_true, List.mem_range] at hk
  obtain ⟨⟨⟨⟨k1, k2⟩, k3, k4, k5⟩, k6, k7⟩, k8⟩ := hk
  intro r hr ht
  obtain ⟨a1, a2⟩ := kk (cpH src sp dst dp n h) r hr ht
  obtain ⟨rfl, rfl, rfl⟩ := hx
  refine ⟨a1, fun hok H locs ls hl2 hP hS hh => ?_⟩
  obtain ⟨r1, r2, r3, r4⟩ := hok.2.2.2.2.2.2.2.2.1
  obtain ⟨ha, hb, ho⟩ := arr_of (a := dst) hP (by omega) (by omega) k2
  obtain ⟨hs0, cs, s1, s2, s3, s4, s5, s6⟩ := byc hok hP hS k1
  rw [vR_pos (show dst ≠ 0 by omega), vR_pos hs0]
  rw [arw_I (by omega) (by omega)] at ho
  obtain ⟨s7, kS, hkS, cmS, hkkS⟩ := s2
  obtain ⟨s8, kD, hkD, cmD, hkkD⟩ := tyOf hok 3 rfl (hpS h dst).2 (fun j => .int (hpI h dst j))
  intro T0 hT X
  obtain ⟨vm', X', step⟩ := X.arraycopy hok.1 hok.2.2.2.1 (hok.2.2.2.2.1 _ hl) (hok.2.2.2.2.1 _ hw.1) (hok.2.2.2.2.1 _ hw.2.1) (hok.2.2.2.2.1 _ hw.2.2) (src := adr x.2.2.2 src) (dst := adr x.2.2.2 dst) (cs := cs) (cd := arrV (wA x.2.2.2 53) (hpS h dst).2 (fun j => .int (hpI h dst j))) (srcPos := sp) (destPos := dp) (n := n) (by rw [hT]; exact s1) (by rw [hT]; exact ho)
    s7 s8 s3 (fun h => by cases h) hkS hkD hkkS hkkD (by simp [refKind]) k3 k4 k5
    (by rw [nn32 sp k3, nn32 n k5]; have : sp.toNatClampNeg + n.toNatClampNeg ≤ cs.slots.size := Nat.le_trans k6 s4; omega)
    (by rw [nn32 dp k4, nn32 n k5]; have : dp.toNatClampNeg + n.toNatClampNeg ≤ (hpS h dst).2 := k7; rw [arrV_size]; omega)
    (fun vm₁ _ i hi => by
      have e : cs.slots.getD (sp.toNatClampNeg + i) .null = .int (bAt src h (sp.toNatClampNeg + i)) := by
        have s9 : cs.slots[sp.toNatClampNeg + i]? = some (.int (bAt src h (sp.toNatClampNeg + i))) := s6 _ (Nat.lt_of_lt_of_le (Nat.add_lt_add_left hi _) k6)
        rw [Array.getD_eq_getD_getElem?, s9]
        rfl
      refine ⟨?_, ?_⟩
      · rw [e]
        exact k8 i hi
      · rw [e]
        exact trivial)
    (g := F0 x.1.2.2.2.2.2 pc ls (.int n :: .int dp :: .ref (adr x.2.2.2 dst) :: .int sp :: .ref (adr x.2.2.2 src) :: st)) rfl (by rw [hok.2.2.1, hl2.1]) (rest := st) rfl (by rw [hok.2.1]; exact hd) (by omega) (by show 2 * 0 + _ + _ ≤ _; have : nativeFrameWords "java/lang/System" "arraycopy" 5 + 11 ≤ 50 := (by decide); omega)
  have e1 : copied cs (arrV (wA x.2.2.2 53) (hpS h dst).2 (fun j => .int (hpI h dst j))) sp dp n = arrV (wA x.2.2.2 53) (hpS h dst).2 (fun j => .int (va_cpy (bAt src h) (hpI h dst) sp.toNatClampNeg dp.toNatClampNeg n.toNatClampNeg j)) := va_copiedX (fun z => .int z) cs _ _ _ s6 k6
  rw [e1] at X' step
  generalize hcN : arrV (wA x.2.2.2 53) (hpS h dst).2 (fun j => .int (va_cpy (bAt src h) (hpI h dst) sp.toNatClampNeg dp.toNatClampNeg n.toNatClampNeg j)) = cN at X' step
  have hl3 : adr x.2.2.2 dst < H.size := (Array.getElem?_eq_some_iff.mp ho).1
  have hheap : ((T0.setVm vm').setCell (adr x.2.2.2 dst) cN).heap = H.setIfInBounds (adr x.2.2.2 dst) cN := by rw [← hT]; rfl
  have oq : ∀ q : Nat, q ≠ adr x.2.2.2 dst → (H.setIfInBounds (adr x.2.2.2 dst) cN)[q]? = H[q]? := fun q hq => by simp [Array.getElem?_setIfInBounds, Ne.symm hq]
  have hP1 : hOk x.2.2.2 (cpH src sp dst dp n h) (H.setIfInBounds (adr x.2.2.2 dst) cN) := by
    refine hP.put ha (fun _ => rfl) rfl (fun b k hb => if_neg hb) (fun _ _ _ => rfl) (fun _ _ _ => rfl) (by simp) oq fun _ => ?_
    refine hCell.arr (kd := 53) (by omega) k2 (V := fun j => .int (va_cpy (bAt src h) (hpI h dst) sp.toNatClampNeg dp.toNatClampNeg n.toNatClampNeg j)) (by
      show (H.setIfInBounds _ _)[_]? = some (arrV _ (hpS h dst).2 _)
      rw [hcN]
      simp [Array.getElem?_setIfInBounds, hl3]) fun j => ?_
    rw [arw_I (by omega) (by omega)]
    show _ = Value.int (if dst = dst then _ else _)
    rw [if_pos rfl]; rfl
  obtain ⟨t, b1, b2⟩ := a2 hok _ _ ls hl2 hP1 (show va_S (wArea x.2.2.2) x.1.2.2.2.2.1.heap (H.setIfInBounds (adr x.2.2.2 dst) cN) _ from ⟨by simp; exact hS.1, fun q g1 g2 => by
      rw [oq q (fun e => g2 (by rw [e]; exact adr_area ha))]
      exact hS.2.1 q g1 g2, fun q hq => by
      rcases List.mem_append.mp hq with h | h
      · exact hS.2.2 q h
      · obtain ⟨z, -, hz⟩ := List.mem_map.mp h
        rw [← hz]
        exact adr_area ha⟩) hh _ hheap X'
  exact ⟨t, step t b1, b2⟩
end CX
