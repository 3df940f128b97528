section CR
variable {x : Cx} {cc : ByteArray} {own : String} {d pc q : Nat} {lv lv' : List (Nat × Value)} {st : List Value} {h : Hp} {ρ : Type} {T : ρ → Prop}
theorem va_AO2.moved {u U : State} (hvm : u.vm.Alike U.vm) (h : va_AO2 u) : va_AO2 U := by
  unfold va_AO2 Cond.before Cond.holds at *
  simp only [Cond.value, beq_iff_eq, Option.bind_eq_some_iff, Option.map_eq_some_iff] at h ⊢
  obtain ⟨comp, h1, i, h2, k, h3, h4⟩ := h
  obtain ⟨k', hk', he⟩ := hvm.2.2 _ _ h3
  refine ⟨comp, by rw [hvm.findClass]; exact h1, i, by rw [hvm.findIdx_congr _ (fun _ _ _ _ => rfl)]; exact h2, k', hk', ?_⟩
  rw [he, hvm.findClass]; exact h4
theorem roCell.moved {w : Wd} {u U : State} {H H1 : Heap} (hvm : u.vm.Alike U.vm) (hq : ∀ q, q < wBase w → H1[q]? = H[q]?) {a : Nat} (h : roCell w u H a) : roCell w U H1 a := by
  obtain ⟨h1, h2, h3⟩ := h
  refine ⟨fun z => ?_, fun z => ?_, h3⟩
  · exact ((h1 z).moved hvm).kept (hq _ (h3 (by omega)))
  · obtain ⟨cell, r1, r2, r3, r4, r5, r6, r7⟩ := h2 z
    exact ⟨cell, by rw [hq _ (h3 (by omega))]; exact r1, State.isArrayOf_alike hvm r2, r3, r4, r5, r6, r7⟩
theorem roOk.moved {w : Wd} {u U : State} {H H1 : Heap} (hW : u.WarmedH U.vm) (hq : ∀ q, q < wBase w → H1[q]? = H[q]?) (h : roOk w u H) : roOk w U H1 := by
  have hvm := hW.alike
  have hq2 : ∀ a : Nat, a < H.size → ¬ wArea w a → H1[a]? = H[a]? := fun a _ h => hq a (Nat.not_le.mp h)
  obtain ⟨h1, h2, ⟨e1, e2, e3, e4, e5, e6, e7, e8, e9, e10, e11, e12, e13, e14⟩, h4, h5, h6, h7, h8, h9⟩ := h
  exact ⟨fun a ha => (h1 a ha).moved hvm hq, (va_Z.moved hvm h2).kept hq2, ⟨(va_Z.moved hvm e1).kept hq2, (va_T.moved hvm e2).kept hq2, (va_Z.moved hvm e3).kept hq2, (va_T.moved hvm e4).kept hq2, (va_Z.moved hvm e5).kept hq2, (va_T.moved hvm e6).kept hq2, va_AO2.moved hvm e7, va_AO.moved hvm e8, va_AO.moved hvm e9, va_Fw.moved (by decide) hvm e10, va_Fw.moved (by decide) hvm e11, va_Nw.warmC hW e12, va_Nw.warmC hW e13, va_Nw.warmC hW e14⟩, (va_Z.moved hvm h4).kept hq2, (va_Z.moved hvm h5).kept hq2,
    fun i hi => ⟨(va_O.moved hvm (h6 i hi).1).kept hq2, (va_OF.moved hvm (h6 i hi).2.1).kept hq2, (va_OF.moved hvm (h6 i hi).2.2.1).kept hq2, (va_T.moved hvm (h6 i hi).2.2.2).kept hq2⟩, fun q hq => (h7 q hq).warm hW, va_AO.moved hvm h8, va_AO.moved hvm h9⟩
theorem roOk.calling {w : Wd} {U : State} {H : Heap} {g : JFrame} {mk : MethodId} {a : Array Value} (h : roOk w U H) : roOk w (U.calling g mk a) H := by
  obtain ⟨h1, h2, ⟨e1, e2, e3, e4, e5, e6, e7, e8, e9, e10, e11, e12, e13, e14⟩, h4, h5, h6, h7, h8, h9⟩ := h
  have hvm : U.vm.Alike (U.calling g mk a).vm := Vm.Alike.refl U.vm
  exact ⟨fun a ha => (h1 a ha).moved hvm (fun _ _ => rfl), va_Z.moved hvm h2, ⟨va_Z.moved hvm e1, va_T.moved hvm e2, va_Z.moved hvm e3, va_T.moved hvm e4, va_Z.moved hvm e5, va_T.moved hvm e6, va_AO2.moved hvm e7, va_AO.moved hvm e8, va_AO.moved hvm e9, va_Fw.moved (by decide) hvm e10, va_Fw.moved (by decide) hvm e11, va_Nw.calling rfl e12, va_Nw.calling rfl e13, va_Nw.calling rfl e14⟩, va_Z.moved hvm h4, va_Z.moved hvm h5,
    fun i hi => ⟨va_O.moved hvm (h6 i hi).1, va_OF.moved hvm (h6 i hi).2.1, va_OF.moved hvm (h6 i hi).2.2.1, va_T.moved hvm (h6 i hi).2.2.2⟩, fun q hq => (h7 q hq).same rfl, va_AO.moved hvm h8, va_AO.moved hvm h9⟩
theorem pcM_blind {w : Wd} {av : List Value} {h : Hp} : FrameBlind (pcM w av h) := fun a U g mk q => ⟨q.1, q.2.1, q.2.2.1.calling, q.2.2.2.calling⟩
/-- what a call's run gives: the callee's end is the pure one -/
theorem j_run {n : Nat} {h' : Hp} {res : Option Value} {K : Option ρ} (hx : On x cc own d) (hle : hLe h h') {avs : Array Value}
    (hr : Ok x cc own d → ∀ (H : Heap) (locs : List Loc) (ls : Array Slot) (ce sl : Nat), ls.size = x.2.2.1.1.1 → hOk x.2.2.2 h H → va_S (wArea x.2.2.2) x.1.2.2.2.2.1.heap H locs → ce + (hpN h' - hpN h) ≤ x.1.2.2.2.1.cells → sl + (hpM h' - hpM h) ≤ x.1.2.2.2.1.slots →
      (∀ U : State, U.heap = H → x.1.2.2.2.2.1.WarmedH U.vm → hOk x.2.2.2 h U.heap ∧ kOk x.2.2.2 U ∧ roOk x.2.2.2 U U.heap) →
      va_Run x.1.1 x.1.2.1 x.1.2.2.1 x.1.2.2.2.1 x.1.2.2.2.2.1 x.1.2.2.2.2.2 x.2.1.1 x.2.1.2.1 x.2.1.2.2.1 x.2.1.2.2.2.1 H locs ce sl (hpN h' - hpN h) (hpM h' - hpM h) (F0 x.1.2.2.2.2.2 pc ls st) (lv'.map Prod.snd) (qcM x.2.2.2 res h' avs) (wArea x.2.2.2))
    (hq : pc + 3 = q) (kk : J x q lv (res.toList ++ lv'.map Prod.snd) h' K T) : J x pc lv st h K T := by
  subst hq
  intro r hr2 ht
  obtain ⟨a1, a2⟩ := kk r hr2 ht
  obtain ⟨rfl, rfl, rfl⟩ := hx
  refine ⟨hle.tr a1, fun hok H locs ls hl hP hS hh => ?_⟩
  obtain ⟨-, -, hml, -, -, -, hkk, -, ⟨-, -, hce, hsl⟩, hbase, hro⟩ := id hok
  have l1 := hh.1
  have l2 := hh.2
  have l3 := hle.1
  have l4 := hle.2
  have l5 := a1.1
  have l6 := a1.2
  intro T0 hT X
  obtain ⟨v, st₀, t, T', L, h0, X', hL, e1, e2, ⟨hv, hp, hF⟩, stp⟩ := hr hok H locs ls _ _ hl.1 hP hS (by omega) (by omega) (fun U hU hW => ⟨by rw [hU]; exact hP, hkk.moved hW, roOk.moved hW (fun q hq => by rw [hU]; exact hS.2.1 q (Nat.lt_of_lt_of_le hq hbase) (Nat.not_le.mpr hq)) hro⟩) T0 hT X
  have hv : v = res := by cases hv; rfl
  subst hv
  have hS' : va_S (wArea x.2.2.2) x.1.2.2.2.2.1.heap T'.heap (locs ++ L) := by
    refine ⟨Nat.le_trans hS.1 (by rw [e1, ← h0]; exact hF.1), fun q hq hA => ?_, fun l hl => ?_⟩
    · rw [e1, hF.2 q (by rw [h0]; exact Nat.lt_of_lt_of_le hq hS.1) hA, h0]; exact hS.2.1 q hq hA
    · rcases List.mem_append.mp hl with z | z
      · exact hS.2.2 l z
      · exact hL l z
  have a3 := a2 hok T'.heap (locs ++ L) ls hl (by rw [e1]; exact hp) hS' (hh.tr hle)
  rw [show hpN h' - hpN x.2.2.1.2.1 = hpN h - hpN x.2.2.1.2.1 + (hpN h' - hpN h) by omega, show hpM h' - hpM x.2.2.1.2.1 = hpM h - hpM x.2.2.1.2.1 + (hpM h' - hpM h) by omega] at a3
  obtain ⟨t2, b1, b2⟩ := a3 T' rfl X'
  exact ⟨t2, stp t2 b1, b2⟩
/-- what a call's run gives: the callee's end is the pure one -/
theorem j_run5 {n : Nat} {h' : Hp} {res : Option Value} {K : Option ρ} (hx : On x cc own d) (hle : hLe h h') {avs : Array Value}
    (hr : Ok x cc own d → ∀ (H : Heap) (locs : List Loc) (ls : Array Slot) (ce sl : Nat), ls.size = x.2.2.1.1.1 → hOk x.2.2.2 h H → va_S (wArea x.2.2.2) x.1.2.2.2.2.1.heap H locs → ce + (hpN h' - hpN h) ≤ x.1.2.2.2.1.cells → sl + (hpM h' - hpM h) ≤ x.1.2.2.2.1.slots →
      (∀ U : State, U.heap = H → x.1.2.2.2.2.1.WarmedH U.vm → hOk x.2.2.2 h U.heap ∧ kOk x.2.2.2 U ∧ roOk x.2.2.2 U U.heap) →
      va_Run5 x.1.1 x.1.2.1 x.1.2.2.1 x.1.2.2.2.1 x.1.2.2.2.2.1 x.1.2.2.2.2.2 x.2.1.1 x.2.1.2.1 x.2.1.2.2.1 x.2.1.2.2.2.1 H locs ce sl (hpN h' - hpN h) (hpM h' - hpM h) (F0 x.1.2.2.2.2.2 pc ls st) (lv'.map Prod.snd) (qcM x.2.2.2 res h' avs) (wArea x.2.2.2))
    (hq : pc + 5 = q) (kk : J x q lv (res.toList ++ lv'.map Prod.snd) h' K T) : J x pc lv st h K T := by
  subst hq
  intro r hr2 ht
  obtain ⟨a1, a2⟩ := kk r hr2 ht
  obtain ⟨rfl, rfl, rfl⟩ := hx
  refine ⟨hle.tr a1, fun hok H locs ls hl hP hS hh => ?_⟩
  obtain ⟨-, -, hml, -, -, -, hkk, -, ⟨-, -, hce, hsl⟩, hbase, hro⟩ := id hok
  have l1 := hh.1
  have l2 := hh.2
  have l3 := hle.1
  have l4 := hle.2
  have l5 := a1.1
  have l6 := a1.2
  intro T0 hT X
  obtain ⟨v, st₀, t, T', L, h0, X', hL, e1, e2, ⟨hv, hp, hF⟩, stp⟩ := hr hok H locs ls _ _ hl.1 hP hS (by omega) (by omega) (fun U hU hW => ⟨by rw [hU]; exact hP, hkk.moved hW, roOk.moved hW (fun q hq => by rw [hU]; exact hS.2.1 q (Nat.lt_of_lt_of_le hq hbase) (Nat.not_le.mpr hq)) hro⟩) T0 hT X
  have hv : v = res := by cases hv; rfl
  subst hv
  have hS' : va_S (wArea x.2.2.2) x.1.2.2.2.2.1.heap T'.heap (locs ++ L) := by
    refine ⟨Nat.le_trans hS.1 (by rw [e1, ← h0]; exact hF.1), fun q hq hA => ?_, fun l hl => ?_⟩
    · rw [e1, hF.2 q (by rw [h0]; exact Nat.lt_of_lt_of_le hq hS.1) hA, h0]; exact hS.2.1 q hq hA
    · rcases List.mem_append.mp hl with z | z
      · exact hS.2.2 l z
      · exact hL l z
  have a3 := a2 hok T'.heap (locs ++ L) ls hl (by rw [e1]; exact hp) hS' (hh.tr hle)
  rw [show hpN h' - hpN x.2.2.1.2.1 = hpN h - hpN x.2.2.1.2.1 + (hpN h' - hpN h) by omega, show hpM h' - hpM x.2.2.1.2.1 = hpM h - hpM x.2.2.1.2.1 + (hpM h' - hpM h) by omega] at a3
  obtain ⟨t2, b1, b2⟩ := a3 T' rfl X'
  exact ⟨t2, stp t2 b1, b2⟩
/-- the callee's words, out of the caller's -/
theorem cwOf {mi : Mi} {d' n : Nat} {h' : Hp} (hx : Ok x cc own d) (hcw : Cond.code mi.1 mi.2.1 mi.2.2.1 mi.2.2.2 ∈ TB) (hini : Cond.initialized mi.1.cls ∈ TB) (hdd : d' + 1 ≤ d) (hml : mi.2.2.1 ≤ 45) (i : Nat) (hlink : Cond.methodLink own i mi.1 ∈ TB)
    (hy : mi.1.cls ≠ "java/lang/invoke/MethodHandle" ∧ mi.1.cls ≠ "java/lang/invoke/VarHandle" ∧ (parseMethodDescriptor mi.1.desc).map (fun d => d.parameters.length) = some n) :
    CallB x.1.2.2.2.1 x.1.2.2.2.2.1 x.2.1.1 own i mi.1 mi.2.1 mi.2.2.1 mi.2.2.2 (wsM mi) (rmM d' h h') (hpN h' - hpN h) (hpM h' - hpM h) n := by
  have hG : GoodIn TB (wsM mi) := by
    intro w hw
    rcases List.mem_cons.mp hw with e | e
    · rw [e]; exact TB_good _ hcw
    · exact TB_good _ e
  obtain ⟨r1, r2, -, -⟩ := hx.2.2.2.2.2.2.2.2.1
  refine callB_of n hx.2.2.2.2.1 hG rfl rfl rfl (hx.2.2.2.2.1 _ hini) (hx.2.2.2.2.1 _ hlink) hy ⟨?_, ?_⟩
  · show d' + 1 ≤ _; omega
  · show 8 + (mi.2.2.1 + 11) + 64 * d' ≤ _; omega
theorem cnOf {mi : Mi} {d' n : Nat} {h' : Hp} {host : String} (hx : Ok x cc own d) (hcw : Cond.code mi.1 mi.2.1 mi.2.2.1 mi.2.2.2 ∈ TB) (hini : Cond.initialized mi.1.cls ∈ TB) (hdd : d' + 1 ≤ d) (hml : mi.2.2.1 ≤ 45) (i : Nat) (hlink : Cond.methodLinkNest own i mi.1 host ∈ NW)
    (hy : mi.1.cls ≠ "java/lang/invoke/MethodHandle" ∧ mi.1.cls ≠ "java/lang/invoke/VarHandle" ∧ (parseMethodDescriptor mi.1.desc).map (fun d => d.parameters.length) = some n) :
    va_CN x.1.2.2.2.1 x.1.2.2.2.2.1 x.2.1.1 own i mi.1 host mi.2.1 mi.2.2.1 mi.2.2.2 (wsM mi) (rmM d' h h') (hpN h' - hpN h) (hpM h' - hpM h) n := by
  have hG : GoodIn TB (wsM mi) := by
    intro w hw
    rcases List.mem_cons.mp hw with e | e
    · rw [e]; exact TB_good _ hcw
    · exact TB_good _ e
  obtain ⟨r1, r2, -, -⟩ := hx.2.2.2.2.2.2.2.2.1
  refine va_cnB n hx.2.2.2.2.1 hG rfl rfl rfl (hx.2.2.2.2.2.2.1.2 _ hlink) (hx.2.2.2.2.1 _ hini) hy ⟨?_, ?_⟩
  · show d' + 1 ≤ _; omega
  · show 8 + (mi.2.2.1 + 11) + 64 * d' ≤ _; omega
/-- how a method is called: its words among the tables, its room -/
def cIn (mi : Mi) (own : String) (i d d' n : Nat) : Prop :=
  Cond.code mi.1 mi.2.1 mi.2.2.1 mi.2.2.2 ∈ TB ∧ Cond.initialized mi.1.cls ∈ TB ∧ d' + 1 ≤ d ∧ mi.2.2.1 ≤ 45 ∧ (Cond.methodLink own i mi.1 ∈ TB ∨ ∃ host, Cond.methodLinkNest own i mi.1 host ∈ NW) ∧
  (mi.1.cls ≠ "java/lang/invoke/MethodHandle" ∧ mi.1.cls ≠ "java/lang/invoke/VarHandle" ∧ (parseMethodDescriptor mi.1.desc).map (fun d => d.parameters.length) = some n)
theorem fixOf (hx : Ok x cc own d) : CallFix x.1.1 x.1.2.2.2.2.2 x.2.1.2.2.2.1 cc x.2.2.1.1.1 x.1.2.2.2.2.1 x.2.1.1 TB own := ⟨hx.1, hx.2.1, hx.2.2.1, hx.2.2.2.1, hx.2.2.2.2.1⟩
theorem bindK {σ : Type} {F : Option σ} {K : σ → Option ρ} (k : ∀ u, F = some u → J x pc lv st h (K u) T) : J x pc lv st h (F.bind K) T := by
  cases hF : F with
  | none => intro r hr; cases hr
  | some u => exact k u hF
theorem j_callV {mi : Mi} {σ : Type} {F : Option σ} {hp : σ → Hp} {rs : σ → Option Value} {K : σ → Option ρ} {i d' n a c N : Nat} {C : String} {Tt : u_T} {ty : Nat → FieldType} {As : List Value} (hx : On x cc own d) (hd : decode cc pc = .ok (.invokevirtual i, 3))
    (hF : CF c C Tt N ty) (hc : c + 1 < 50) (hC : mi.1.cls = C) (cw : cIn mi own i d d' n ∧ Cond.instanceMethod mi.1 ∈ TB ∧ Cond.selects C mi.1 mi.1 ∈ TB) (hn : As.length = n)
    (hM : ∀ u, F = some u → M1 x.1.2.1 x.2.2.2 mi d' (vR x.2.2.2 a :: As) h (hp u) (rs u)) (hk : F ≠ none → (hpS h a).1 = c + 1) (hst : (st.map fun v => v.category).sum ≤ 8) (hq : pc + 3 = q)
    (kk : ∀ u, J x q lv ((rs u).toList ++ st) (hp u) (K u) T) : J x pc lv (As.reverse ++ vR x.2.2.2 a :: st) h (F.bind K) T := by
  refine bindK fun u hu => ?_
  obtain ⟨hle, hMet⟩ := hM u hu
  have hk := hk (by rw [hu]; exact fun z => by cases z)
  have e0 : (st.map (fun v => ((0 : Nat), v))).map Prod.snd = st := by rw [List.map_map]; exact List.map_id' st
  refine j_run (lv' := st.map (fun v => (0, v))) (n := 0) (res := rs u) (avs := (vR x.2.2.2 a :: As).toArray) hx (hle ⟨x⟩) (fun hx H locs ls ce sl hls hP hS c1 c2 hU => ?_) hq (by rw [e0]; exact kk u)
  rw [e0]
  obtain ⟨ha, hb, ho⟩ := obj_of hP hF hc hk
  have hpos : vR x.2.2.2 a = .ref (adr x.2.2.2 a) := vR_pos (by omega)
  rw [hpos] at hMet ⊢
  obtain ⟨⟨g1, g2, g3, g4, g5, g6⟩, cw2, cw3⟩ := cw
  obtain ⟨cell, q1, q2, q3, -⟩ := ho
  have hrecv : ∃ cellB : Cell, H[adr x.2.2.2 a]? = some cellB ∧ cellB.vm.isStatics = false ∧ x.1.2.2.2.2.1.vm.findClass C = some cellB.cls := ⟨cell, q1, by rw [q3]; rfl, by rw [q2]; exact (hx.2.2.2.2.2.2.1.1.1 c _ (cls_fst hF)).2.1⟩
  have hpre : PreV x.1.2.2.2.2.1 H C (adr x.2.2.2 a) (pcM x.2.2.2 (.ref (adr x.2.2.2 a) :: As) h) As := ⟨pcM_blind, hrecv, fun U hU1 hW => ⟨rfl, hU U hU1 hW⟩⟩
  rcases g5 with g5 | ⟨host, g5⟩
  · exact va_runV (fixOf hx) hMet ⟨cwOf hx g1 g2 g3 g4 i g5 g6, hx.2.2.2.2.1 _ cw2, hx.2.2.2.2.1 _ cw3⟩ hpre rfl hn hls rfl (lv_room hst) hd ⟨c1, c2⟩
  · exact va_runVN (fixOf hx) hMet ⟨cnOf hx g1 g2 g3 g4 i g5 g6, hx.2.2.2.2.1 _ cw2, hx.2.2.2.2.1 _ cw3⟩ hpre rfl hn hls rfl (lv_room hst) hd ⟨c1, c2⟩
theorem j_callS {mi : Mi} {σ : Type} {F : Option σ} {hp : σ → Hp} {rs : σ → Option Value} {K : σ → Option ρ} {i d' n : Nat} {As : List Value} (hx : On x cc own d) (hd : decode cc pc = .ok (.invokestatic i, 3))
    (cw : cIn mi own i d d' n ∧ Cond.static mi.1 ∈ TB) (hn : As.length = n)
    (hM : ∀ u, F = some u → M1 x.1.2.1 x.2.2.2 mi d' As h (hp u) (rs u)) (hst : (st.map fun v => v.category).sum ≤ 8) (hq : pc + 3 = q)
    (kk : ∀ u, J x q lv ((rs u).toList ++ st) (hp u) (K u) T) : J x pc lv (As.reverse ++ st) h (F.bind K) T := by
  refine bindK fun u hu => ?_
  obtain ⟨hle, hMet⟩ := hM u hu
  have e0 : (st.map (fun v => ((0 : Nat), v))).map Prod.snd = st := by rw [List.map_map]; exact List.map_id' st
  refine j_run (lv' := st.map (fun v => (0, v))) (n := 0) (res := rs u) (avs := As.toArray) hx (hle ⟨x⟩) (fun hx H locs ls ce sl hls hP hS c1 c2 hU => ?_) hq (by rw [e0]; exact kk u)
  rw [e0]
  obtain ⟨⟨g1, g2, g3, g4, g5, g6⟩, cw2⟩ := cw
  have hpre : PreS x.1.2.2.2.2.1 H (pcM x.2.2.2 As h) As := ⟨pcM_blind, fun U hU1 hW => ⟨rfl, hU U hU1 hW⟩⟩
  rcases g5 with g5 | ⟨host, g5⟩
  · exact va_runS (fixOf hx) hMet ⟨cwOf hx g1 g2 g3 g4 i g5 g6, hx.2.2.2.2.1 _ cw2⟩ hpre rfl hn hls rfl (lv_room hst) hd ⟨c1, c2⟩
  · exact va_runSN (fixOf hx) hMet ⟨cnOf hx g1 g2 g3 g4 i g5 g6, hx.2.2.2.2.1 _ cw2, trivial⟩ hpre rfl hn hls rfl (lv_room hst) hd ⟨c1, c2⟩
theorem j_callI {mi : Mi} {σ : Type} {F : Option σ} {hp : σ → Hp} {K : σ → Option ρ} {i d' n a : Nat} {As : List Value} (hx : On x cc own d) (hd : decode cc pc = .ok (.invokespecial i, 3))
    (cw : cIn mi own i d d' n ∧ mi.1.name = "<init>" ∧ Cond.instanceMethod mi.1 ∈ TB) (hret : mi.2.2.2 = none) (hn : As.length = n)
    (hM : ∀ u, F = some u → M1 x.1.2.1 x.2.2.2 mi d' (vR x.2.2.2 a :: As) h (hp u) none) (ha : a ≠ 0) (hst : (st.map fun v => v.category).sum ≤ 8) (hq : pc + 3 = q)
    (kk : ∀ u, J x q lv st (hp u) (K u) T) : J x pc lv (As.reverse ++ vR x.2.2.2 a :: st) h (F.bind K) T := by
  obtain ⟨y, bytes, maxL, ret⟩ := mi
  dsimp only at hret
  subst hret
  refine bindK fun u hu => ?_
  obtain ⟨hle, hMet⟩ := hM u hu
  have e0 : (st.map (fun v => ((0 : Nat), v))).map Prod.snd = st := by rw [List.map_map]; exact List.map_id' st
  refine j_run (lv' := st.map (fun v => (0, v))) (n := 0) (res := none) (avs := (vR x.2.2.2 a :: As).toArray) hx (hle ⟨x⟩) (fun hx H locs ls ce sl hls hP hS c1 c2 hU => ?_) hq (by rw [e0]; exact kk u)
  rw [e0]
  have hpos : vR x.2.2.2 a = .ref (adr x.2.2.2 a) := vR_pos ha
  rw [hpos] at hMet ⊢
  obtain ⟨⟨g1, g2, g3, g4, g5, g6⟩, cw2, cw3⟩ := cw
  have hpre : PreS x.1.2.2.2.2.1 H (pcM x.2.2.2 (.ref (adr x.2.2.2 a) :: As) h) (.ref (adr x.2.2.2 a) :: As) := ⟨pcM_blind, fun U hU1 hW => ⟨rfl, hU U hU1 hW⟩⟩
  rcases g5 with g5 | ⟨host, g5⟩
  · exact va_runI (fixOf hx) hMet ⟨cwOf hx g1 g2 g3 g4 i g5 g6, cw2, hx.2.2.2.2.1 _ cw3⟩ hpre rfl hn hls rfl (lv_room hst) hd ⟨c1, c2⟩
  · exact va_runIN (fixOf hx) hMet ⟨cnOf hx g1 g2 g3 g4 i g5 g6, cw2, hx.2.2.2.2.1 _ cw3⟩ hpre rfl hn hls rfl (lv_room hst) hd ⟨c1, c2⟩
end CR
