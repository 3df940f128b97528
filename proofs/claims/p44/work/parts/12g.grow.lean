/-! a row of bytes cloned; a row of rows of marks; a cast to a row of bytes -/
section GRW
variable {x : Cx} {cc : ByteArray} {own : String} {d pc q : Nat} {lv lv' : List (Nat × Value)} {st : List Value} {h : Hp} {ρ : Type} {T : ρ → Prop}
/-- a heap with more cells -/
theorem hOk.grow {w : Wd} {h h' : Hp} {H H1 : Heap} {c0 : Nat} (hP : hOk w h H) (eN : hpN h' = hpN h + c0)
    (eO : ∀ b, b < hpN h → hpS h' b = hpS h b ∧ ∀ k, hpI h' b k = hpI h b k ∧ hpL h' b k = hpL h b k ∧ hpR h' b k = hpR h b k) (e0 : ∀ b, hpN h' ≤ b → (hpS h' b).1 = 0)
    (hz : H1.size = H.size + c0) (ho : ∀ q, q < H.size → H1[q]? = H[q]?) (hc : ∀ b, hpN h ≤ b → b < hpN h' → hCell w h' H1 b ∧ (hpS h' b).1 < 80) : hOk w h' H1 := by
  have hA := adr_new hP
  obtain ⟨h0, h1, h2, h3, h4, h5⟩ := hP
  refine ⟨by omega, by omega, fun b hb hb2 => ?_, e0, fun b hb => ?_, ?_⟩
  · by_cases hba : hpN h ≤ b
    · exact hc b hba hb2
    · obtain ⟨g1, g2⟩ := h2 b hb (by omega)
      obtain ⟨eS, eV⟩ := eO b (by omega)
      refine ⟨?_, by rw [eS]; exact g2⟩
      have hlt : adr w b < H.size := by
        rw [← hA]
        unfold adr
        rw [if_neg (by omega), if_neg (by omega)]
        omega
      unfold hCell
      rw [eS]
      have e1 : ∀ ty k, slv w h' ty b k = slv w h ty b k := fun ty k => by unfold slv; rw [(eV k).1, (eV k).2.1, (eV k).2.2]
      have e2 : arw w h' (hpS h b).1 b = arw w h (hpS h b).1 b := by funext j; unfold arw; rw [(eV j).1, (eV j).2.1, (eV j).2.2]
      refine ⟨fun z1 z2 => ?_, fun z => ?_⟩
      · obtain ⟨qq, r1, r2⟩ := g1.1 z1 z2
        exact ⟨qq, r1, (r2.kept (ho _ hlt)).to (fun k _ => (e1 qq.2 k).symm)⟩
      · rw [ho _ hlt, e2]; exact g1.2 z
  · obtain ⟨eS, eV⟩ := eO b (by omega)
    rw [eS]
    obtain ⟨g1, g2, g3⟩ := h4 b hb
    exact ⟨g1, g2, fun k => by rw [(eV k).1, (eV k).2.1, (eV k).2.2]; exact g3 k⟩
  · rw [(eO 0 (by omega)).1]; exact h5
/-- a step that makes some cells -/
theorem J.nwG {K : Option ρ} {h' : Hp} {c0 s0 : Nat} {st2 : List Value} (hx : On x cc own d) (eN : hpN h' = hpN h + c0) (eM : hpM h' = hpM h + s0)
    (hs : Ok x cc own d → ∀ (H : Heap) (locs : List Loc) (ls : Array Slot) (ce sl : Nat), lv_has ls x.2.2.1.1.1 lv → hOk x.2.2.2 h H → va_S (wArea x.2.2.2) x.1.2.2.2.2.1.heap H locs → ce + c0 ≤ x.1.2.2.2.1.cells → sl + s0 ≤ x.1.2.2.2.1.slots →
      (∀ H1, hOk x.2.2.2 h' H1 → va_S (wArea x.2.2.2) x.1.2.2.2.2.1.heap H1 locs → W x.1.1 x.1.2.1 x.1.2.2.1 x.1.2.2.2.1 x.1.2.2.2.2.1 x.1.2.2.2.2.2 x.2.1.1 x.2.1.2.1 x.2.1.2.2.1 x.2.1.2.2.2.1 H1 locs (ce + c0) (sl + s0) x.2.1.2.2.2.2 (F0 x.1.2.2.2.2.2 q ls st2)) →
      W x.1.1 x.1.2.1 x.1.2.2.1 x.1.2.2.2.1 x.1.2.2.2.2.1 x.1.2.2.2.2.2 x.2.1.1 x.2.1.2.1 x.2.1.2.2.1 x.2.1.2.2.2.1 H locs ce sl x.2.1.2.2.2.2 (F0 x.1.2.2.2.2.2 pc ls st))
    (k : J x q lv st2 h' K T) : J x pc lv st h K T := fun r hr ht => by
  obtain ⟨rfl, rfl, rfl⟩ := hx
  obtain ⟨⟨a1, a2⟩, a3⟩ := k r hr ht
  rw [eN] at a1
  rw [eM] at a2
  refine ⟨⟨by omega, by omega⟩, fun hok H locs ls hl hP hS hh => ?_⟩
  obtain ⟨-, -, hce, hsl⟩ := hok.2.2.2.2.2.2.2.2.1
  have l1 := hh.1
  have l2 := hh.2
  refine hs hok H locs ls _ _ hl hP hS (by omega) (by omega) fun H1 hP1 hS1 => ?_
  have hh' : hLe x.2.2.1.2.1 h' := ⟨by omega, by omega⟩
  have := a3 hok H1 locs ls hl hP1 hS1 hh'
  rw [eN, eM, show hpN h + c0 - hpN x.2.2.1.2.1 = hpN h - hpN x.2.2.1.2.1 + c0 by omega, show hpM h + s0 - hpM x.2.2.1.2.1 = hpM h - hpM x.2.2.1.2.1 + s0 by omega] at this
  exact this
theorem va_S.more {A : Nat → Prop} {H0 H H1 : Heap} {locs : List Loc} {c0 : Nat} (hS : va_S A H0 H locs) (z1 : H1.size = H.size + c0) (o1 : ∀ q, q < H.size → H1[q]? = H[q]?) : va_S A H0 H1 locs :=
  ⟨Nat.le_trans hS.1 (by omega), fun x h1 h2 => (o1 x (Nat.lt_of_lt_of_le h1 hS.1)).trans (hS.2.1 x h1 h2), hS.2.2⟩
/-! the clone -/
def hpClo (a : Nat) (h : Hp) : Hp :=
  ((fun b => if b = hpN h then hpS h a else h.1 b), (fun b k => if b = hpN h then hpI h a k else h.2.1 b k), (fun b k => if b = hpN h then 0 else h.2.2.1 b k), (fun b k => if b = hpN h then 0 else h.2.2.2.1 b k), hpN h + 1, hpM h + (hpS h a).2)
def clC (a : Nat) (h : Hp) : Bool := decide ((hpS h a).1 = 53) && decide (99 ≤ hpN h) && (List.range (hpS h a).2).all (fun i => fits .byte (.int (hpI h a i)))
def clB (a : Nat) (h : Hp) : Option (Nat × Hp) := if clC a h = true then some (hpN h, hpClo a h) else none
theorem j_clB (hx : On x cc own d) {i a : Nat} {K : Nat → Hp → Option ρ} (hd : decode cc pc = .ok (.invokevirtual i, 3)) (hw : Ncl own i) (h1 : 1 ≤ d) (hst : (st.map fun v => v.category).sum ≤ 8) (hq : pc + 3 = q)
    (kk : ∀ v, v ≠ 0 → ∀ h', J x q lv (vR x.2.2.2 v :: st) h' (K v h') T) : J x pc lv (vR x.2.2.2 a :: st) h (b2 (clB a h) K) T := by
  subst hq
  refine b2_if fun hk => ?_
  unfold clC at hk
  simp only [Bool.and_eq_true, decide_eq_true_eq, List.all_eq_true, List.mem_range] at hk
  obtain ⟨⟨k1, k2⟩, k3⟩ := hk
  refine J.nwG (h' := hpClo a h) (c0 := 1) (s0 := (hpS h a).2) hx rfl rfl (fun hok H locs ls ce sl hl hP hS hce hsl k0 => ?_) (kk (hpN h) (by omega) _)
  obtain ⟨w1, w2, w3, w4, w5⟩ := hw
  have hA := adr_new hP
  obtain ⟨r1, r2, -, -⟩ := hok.2.2.2.2.2.2.2.2.1
  obtain ⟨ha, hb, ho⟩ := arr_of (a := a) hP (by omega) (by omega) k1
  rw [vR_pos (show a ≠ 0 by omega)]
  rw [arw_I (by omega) (by omega)] at ho
  have hcl := (hok.2.2.2.2.2.2.1.1.2 3 _ (show (tys0 x.2.2.2)[3]? = some (wA x.2.2.2 53, .byte) from rfl)).2
  have hnm : x.1.2.2.2.2.1.vm.findClass "[B" = some (wA x.2.2.2 53) := by
    have e : "[" ++ FieldType.byte.toString = "[B" := by decide +kernel
    rw [← e]; exact hcl
  obtain ⟨c0, t1, f1, f2, f3⟩ := Cond.castable_spec (va_Nw.use (A := x.2.1.1) rfl (hok.2.2.2.2.2.2.2.2.2.2.2.2.1.2.2.2.2.2.2.2.2.2.2.2.2.2))
  cases hnm.symm.trans f1
  obtain ⟨s8, kD, hkD, cmD, hkkD⟩ := tyOf hok 3 rfl (hpS h a).2 (fun j => .int (hpI h a j))
  intro T0 hT X
  obtain ⟨-, kA, hkA, comp, hkind⟩ := State.isArrayOf_alike X.warmed.alike (tyOf hok 3 rfl (hpS h a).2 (fun j => .int (hpI h a j)))
  obtain ⟨vm', X', step⟩ := X.cloneArray hok.1 hok.2.2.2.1 (hok.2.2.2.2.1 _ w1) (hok.2.2.2.2.1 _ w2) (hok.2.2.2.2.1 _ w3) (hok.2.2.2.2.1 _ w4) (hok.2.2.2.2.1 _ w5) (a := adr x.2.2.2 a) (cell := arrV (wA x.2.2.2 53) (hpS h a).2 (fun j => .int (hpI h a j))) (by rw [hT]; exact ho) s8 (fun h => by cases h) hnm f2 f3
    (fun i v hv => by
      have hk' : T0.vm.classes[(arrV (wA x.2.2.2 53) (hpS h a).2 (fun j => Value.int (hpI h a j))).cls]? = some kA := hkA
      have hi : i < (hpS h a).2 := by
        have := (Array.getElem?_eq_some_iff.mp hv).1
        rwa [arrV_size] at this
      rw [arrV_read _ _ hi] at hv
      cases hv
      simpa [State.fitsSlot, State.slotType?, hk', hkind] using k3 i hi)
    (g := F0 x.1.2.2.2.2.2 pc ls (.ref (adr x.2.2.2 a) :: st)) rfl (by rw [hok.2.2.1]; exact hl.1) (rest := st) rfl (by rw [hok.2.1]; exact hd) (by omega) (by show 2 * 0 + _ + 14 ≤ _; omega) (by omega) (by rw [arrV_size]; exact hsl) (hloader := Vm.clonesLoader_of_array hkD hkkD)
  rw [arrV_size] at X'
  have hcE : ({ cls := (arrV (wA x.2.2.2 53) (hpS h a).2 (fun j => Value.int (hpI h a j))).cls, slots := (arrV (wA x.2.2.2 53) (hpS h a).2 (fun j => Value.int (hpI h a j))).slots } : Cell) = arrV (wA x.2.2.2 53) (hpS h a).2 (fun j => .int (hpI h a j)) := rfl
  rw [hcE] at X' step
  generalize hcN : arrV (wA x.2.2.2 53) (hpS h a).2 (fun j => Value.int (hpI h a j)) = cN at X' step ho
  have hheap : ((T0.setVm vm').pushCell cN).heap = H.push cN := by rw [← hT]; rfl
  have o1 : ∀ q : Nat, q < H.size → (H.push cN)[q]? = H[q]? := fun q hq => by rw [Array.getElem?_push, if_neg (Nat.ne_of_lt hq)]
  have hP1 : hOk x.2.2.2 (hpClo a h) (H.push cN) := by
    refine hP.grow (c0 := 1) rfl (fun b hb => ?_) (fun b hb => ?_) (by rw [Array.size_push]) o1 fun b h1 h2 => ?_
    · have ne : b ≠ hpN h := by omega
      exact ⟨if_neg ne, fun k => ⟨if_neg ne, if_neg ne, if_neg ne⟩⟩
    · have hb : hpN h + 1 ≤ b := hb
      have : hpS (hpClo a h) b = hpS h b := if_neg (by omega)
      rw [this]; exact hP.2.2.2.1 b (by omega)
    · have h2 : b < hpN h + 1 := h2
      have : b = hpN h := by omega
      subst this
      have e : hpS (hpClo a h) (hpN h) = hpS h a := if_pos rfl
      refine ⟨hCell.arr (kd := 53) (by omega) (by rw [e]; exact k1) (V := fun j => .int (hpI h a j)) (by rw [hA, e, hcN, Array.getElem?_push_size]) fun j => ?_, by rw [e]; omega⟩
      rw [arw_I (by omega) (by omega)]
      show _ = Value.int (if hpN h = hpN h then _ else _)
      rw [if_pos rfl]
  have hpos : vR x.2.2.2 (hpN h) = .ref H.size := by rw [vR_pos (by omega), hA]
  rw [hpos] at k0
  obtain ⟨t, b1, b2⟩ := k0 _ hP1 (hS.more (c0 := 1) (by rw [Array.size_push]) o1) ((T0.setVm vm').pushCell cN) hheap X'
  refine ⟨t, step t ?_, b2⟩
  rw [hT]
  exact b1
/-! a cast to a row of bytes -/
theorem j_ckB (hx : On x cc own d) {i a : Nat} {K : Option ρ} (hd : decode cc pc = .ok (.checkcast i, 3)) (hl : Cond.classLink own i "[B" ∈ TB) (hq : pc + 3 = q)
    (kk : J x q lv (vR x.2.2.2 a :: st) h K T) : J x pc lv (vR x.2.2.2 a :: st) h (if (hpS h a).1 = 53 then K else none) T := by
  subst hq
  refine J.ckd fun hk => J.rd hx (fun hok H locs ls ce sl hP hS k0 => ?_) kk
  obtain ⟨ha, hb, ho⟩ := arr_of (a := a) hP (by omega) (by omega) hk
  have hcl := (hok.2.2.2.2.2.2.1.1.2 3 _ (show (tys0 x.2.2.2)[3]? = some (wA x.2.2.2 53, .byte) from rfl)).2
  have hnm : x.1.2.2.2.2.1.vm.findClass "[B" = some (wA x.2.2.2 53) := by
    have e : "[" ++ FieldType.byte.toString = "[B" := by decide +kernel
    rw [← e]; exact hcl
  rw [vR_pos (show a ≠ 0 by omega)] at k0 ⊢
  intro T0 hT X
  obtain ⟨vm', X', step⟩ := X.checkcastYes hok.1 hok.2.2.2.1 (hok.2.2.2.2.1 _ hl) (by rw [hT]; exact ho) rfl hnm (va_asg _ _) (g := F0 x.1.2.2.2.2.2 pc ls (.ref (adr x.2.2.2 a) :: st)) rfl rfl (by rw [hok.2.1]; exact hd)
  obtain ⟨t, a1, b1⟩ := k0 (T0.setVm vm') hT X'
  exact ⟨t, step t a1, b1⟩
/-! five rows of five marks -/
def hpMul (h : Hp) : Hp :=
  ((fun b => if b = hpN h then (79, 5) else if hpN h ≤ b ∧ b < hpN h + 6 then (52, 5) else h.1 b), (fun b k => if hpN h ≤ b ∧ b < hpN h + 6 then 0 else h.2.1 b k), (fun b k => if hpN h ≤ b ∧ b < hpN h + 6 then 0 else h.2.2.1 b k),
   (fun b k => if b = hpN h then (if k < 5 then hpN h + 1 + k else 0) else if hpN h ≤ b ∧ b < hpN h + 6 then 0 else h.2.2.2.1 b k), hpN h + 6, hpM h + 30)
def muZ (h : Hp) : Option (Nat × Hp) := if 99 ≤ hpN h then some (hpN h, hpMul h) else none
theorem outer_arr (c : ClassId) (N h0 : Nat) : ∀ i, Jvm.Free.Multi.outerC c N h0 i = arrV c N (fun j => if j < i then .ref (h0 + 1 + j) else .null)
  | 0 => (arrV_new c N .null).trans (congrArg (arrV c N) (funext fun j => (if_neg (Nat.not_lt_zero j)).symm))
  | i + 1 => by
    show (Jvm.Free.Multi.outerC c N h0 i).setSlot i (.ref (h0 + 1 + i)) = _
    rw [outer_arr c N h0 i, arrV_store]
    refine congrArg (arrV c N) (funext fun j => ?_)
    show (if j = i then _ else _) = _
    by_cases e : j = i
    · subst e; rw [if_pos rfl, if_pos (Nat.lt_succ_self j)]
    · rw [if_neg e]
      show (if j < i then _ else _) = _
      by_cases e2 : j < i
      · rw [if_pos e2, if_pos (by omega)]
      · rw [if_neg e2, if_neg (by omega)]
theorem j_muZ (hx : On x cc own d) {i : Nat} {K : Nat → Hp → Option ρ} (hd : decode cc pc = .ok (.multianewarray i 2, 4)) (hl : Cond.classLink own i "[[Z" ∈ TB) (hac : Cond.arrayClass .boolean ∈ TB) (hq : pc + 4 = q)
    (kk : ∀ v, v ≠ 0 → ∀ h', J x q lv (vR x.2.2.2 v :: st) h' (K v h') T) : J x pc lv (.int 5 :: .int 5 :: st) h (b2 (muZ h) K) T := by
  subst hq
  refine b2_if fun h100 => ?_
  refine J.nwG (h' := hpMul h) (c0 := 6) (s0 := 30) hx rfl rfl (fun hok H locs ls ce sl hlv hP hS hce hsl k0 => ?_) (kk (hpN h) (by omega) _)
  have hA := adr_new hP
  have e1 : "[[Z" = "[" ++ (FieldType.array .boolean).toString := by decide +kernel
  have e2 : (FieldType.array .boolean).toString = "[" ++ FieldType.boolean.toString := by decide +kernel
  intro T0 hT X
  obtain ⟨vm', cA, comp, hW, n1, n2, -, -, X', step⟩ := X.multianewarray2F hok.1 hok.2.2.2.1 (ty := .boolean) (index := i) (by have := hok.2.2.2.2.1 _ hl; rw [e1] at this; exact this)
    (by exact hok.2.2.2.2.2.2.2.2.2.2.2.2.1.2.2.2.2.2.2.1) (hok.2.2.2.2.1 _ hac) (g := F0 x.1.2.2.2.2.2 pc ls (.int 5 :: .int 5 :: st)) rfl (by rw [hok.2.1]; exact hd) (n := 5) (k := 5) (rest := st) rfl (by decide) (by decide) (by decide) (by decide) (by decide) (by decide) (by decide)
    (by show ce + (1 + 5) ≤ _; omega) (by show sl + (5 + 5 * 5) ≤ _; omega)
  have hcA : cA = wA x.2.2.2 79 := by
    have h2 := (hok.2.2.2.2.2.2.1.1.2 4 _ (show (tys0 x.2.2.2)[4]? = some (wA x.2.2.2 79, .array .boolean) from rfl)).2
    exact Option.some.inj (n1.symm.trans h2)
  have hcm : comp = wA x.2.2.2 52 := by
    have h2 := (hok.2.2.2.2.2.2.1.1.2 2 _ (show (tys0 x.2.2.2)[2]? = some (wA x.2.2.2 52, .boolean) from rfl)).2
    rw [e2] at n2
    exact Option.some.inj (n2.symm.trans h2)
  subst hcA hcm
  have hN5 : (5 : Int32).toNatClampNeg = 5 := by decide
  rw [hN5] at X' step
  have e3 : (T0.setVm vm').heap = H := hT
  obtain ⟨f1, f2, -, -⟩ := Jvm.Free.Multi.fill_facts (T0.setVm vm') (wA x.2.2.2 79) (wA x.2.2.2 52) 5 5 (defaultValue .boolean) 5
  have f3 := fun a (ha : a < (T0.setVm vm').heap.size) => Jvm.Free.Multi.fill_old (T0.setVm vm') (wA x.2.2.2 79) (wA x.2.2.2 52) 5 5 (defaultValue .boolean) ha 5
  have f4 := Jvm.Free.Multi.fill_inner (T0.setVm vm') (wA x.2.2.2 79) (wA x.2.2.2 52) 5 5 (defaultValue .boolean) 5
  rw [e3] at f1 f2 f3 f4
  rw [outer_arr] at f2
  have f6 : ∀ j, j < 5 → Jvm.Free.Multi.innerC (wA x.2.2.2 52) 5 (defaultValue .boolean) = arrV (wA x.2.2.2 52) 5 (fun _ => .int 0) := fun _ _ => arrV_new _ _ _
  generalize hF : Jvm.Free.Multi.fill (T0.setVm vm') (wA x.2.2.2 79) (wA x.2.2.2 52) 5 5 (defaultValue .boolean) 5 = TF at X' step f1 f2 f3 f4
  have hadr : ∀ k, k < 6 → adr x.2.2.2 (hpN h + k) = H.size + k := fun k _ => by
    rw [← hA]
    unfold adr
    rw [if_neg (by omega), if_neg (by omega)]
    omega
  have hP1 : hOk x.2.2.2 (hpMul h) TF.heap := by
    refine hP.grow (c0 := 6) rfl (fun b hb => ?_) (fun b hb => ?_) (by rw [f1]) (fun q hq => f3 q hq) fun b h1 h2 => ?_
    · have ne : b ≠ hpN h := by omega
      have ne2 : ¬ (hpN h ≤ b ∧ b < hpN h + 6) := by omega
      exact ⟨(if_neg ne).trans (if_neg ne2), fun k => ⟨if_neg ne2, if_neg ne2, (if_neg ne).trans (if_neg ne2)⟩⟩
    · have hb : hpN h + 6 ≤ b := hb
      have : hpS (hpMul h) b = hpS h b := (if_neg (by omega)).trans (if_neg (by omega))
      rw [this]; exact hP.2.2.2.1 b (by omega)
    · have h2 : b < hpN h + 6 := h2
      by_cases e : b = hpN h
      · subst e
        have es : hpS (hpMul h) (hpN h) = (79, 5) := if_pos rfl
        refine ⟨hCell.arr (kd := 79) (by omega) (by rw [es]) (V := fun k => if k < 5 then .ref (H.size + 1 + k) else .null) (by rw [hA, es, f2]) fun j => ?_, by rw [es]; decide⟩
        rw [arw_R (by omega)]
        show _ = vR x.2.2.2 (if hpN h = hpN h then _ else _)
        rw [if_pos rfl]
        by_cases hj : j < 5
        · rw [if_pos hj, if_pos hj, vR_pos (by omega), show hpN h + 1 + j = hpN h + (1 + j) by omega, hadr _ (by omega)]
          rw [Nat.add_assoc]
        · rw [if_neg hj, if_neg hj]; rfl
      · have es : hpS (hpMul h) b = (52, 5) := (if_neg e).trans (if_pos ⟨h1, h2⟩)
        obtain ⟨k, rfl⟩ : ∃ k, b = hpN h + (k + 1) := ⟨b - hpN h - 1, by omega⟩
        refine ⟨hCell.arr (kd := 52) (by omega) (by rw [es]) (V := fun _ => .int 0) (by
          rw [hadr _ (by omega), es, show H.size + (k + 1) = H.size + 1 + k by omega, f4 k (by omega), f6 k (by omega)]) fun j => ?_, by rw [es]; decide⟩
        rw [arw_I (by omega) (by omega)]
        show _ = Value.int (if hpN h ≤ hpN h + (k + 1) ∧ hpN h + (k + 1) < hpN h + 6 then _ else _)
        rw [if_pos ⟨h1, h2⟩]
  have hpos : vR x.2.2.2 (hpN h) = .ref H.size := by rw [vR_pos (by omega), hA]
  rw [hpos] at k0
  obtain ⟨t, b1, b2⟩ := k0 _ hP1 (hS.more (c0 := 6) (by rw [f1]) (fun q hq => f3 q hq)) TF rfl X'
  refine ⟨t, step t ?_, b2⟩
  rw [hT]
  exact b1
end GRW
