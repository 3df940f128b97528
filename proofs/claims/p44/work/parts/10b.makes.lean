def newO (c N : Nat) (h : Hp) : Option (Nat × Hp) := if 99 ≤ hpN h then some (hpN h, hpNew (c + 1) N h) else none
def newA (kd n : Nat) (h : Hp) : Option (Nat × Hp) := if 99 ≤ hpN h then some (hpN h, hpNew kd n h) else none
section NR
variable {x : Cx} {cc : ByteArray} {own : String} {d pc q : Nat} {lv lv' : List (Nat × Value)} {st : List Value} {h : Hp} {ρ : Type} {T : ρ → Prop}
theorem adr_new {w : Wd} {H : Heap} (hP : hOk w h H) : adr w (hpN h) = H.size := by
  have := hP.1
  have := hP.2.1
  unfold adr
  rw [if_neg (by omega)]
  omega
theorem hOk.push {w : Wd} {H H1 : Heap} {kd n : Nat} (hP : hOk w h H) (h80 : kd < 80) (hz : H1.size = H.size + 1) (ho : ∀ q, q < H.size → H1[q]? = H[q]?) (hc : hCell w (hpNew kd n h) H1 (hpN h)) : hOk w (hpNew kd n h) H1 := by
  have hA := adr_new hP
  obtain ⟨h0, h1, h2, h3, h4, h5⟩ := hP
  have eS : ∀ b, b ≠ hpN h → hpS (hpNew kd n h) b = hpS h b := fun b hb => if_neg hb
  have eI : ∀ b k, b ≠ hpN h → hpI (hpNew kd n h) b k = hpI h b k := fun b k hb => if_neg hb
  have eL : ∀ b k, b ≠ hpN h → hpL (hpNew kd n h) b k = hpL h b k := fun b k hb => if_neg hb
  have eR : ∀ b k, b ≠ hpN h → hpR (hpNew kd n h) b k = hpR h b k := fun b k hb => if_neg hb
  have eN : hpN (hpNew kd n h) = hpN h + 1 := rfl
  refine ⟨by omega, by omega, fun b hb hb2 => ?_, fun b hb => ?_, fun b hb => ?_, ?_⟩
  · by_cases hba : b = hpN h
    · subst hba
      refine ⟨hc, ?_⟩
      have : hpS (hpNew kd n h) (hpN h) = (kd, n) := if_pos rfl
      rw [this]; exact h80
    · obtain ⟨g1, g2⟩ := h2 b hb (by omega)
      refine ⟨?_, by rw [eS b hba]; exact g2⟩
      have hlt : adr w b < H.size := by
        rw [← hA]
        unfold adr
        rw [if_neg (by omega), if_neg (by omega)]
        omega
      unfold hCell
      rw [eS b hba]
      have e1 : ∀ ty k, slv w (hpNew kd n h) ty b k = slv w h ty b k := fun ty k => by unfold slv; rw [eI b k hba, eL b k hba, eR b k hba]
      have e2 : arw w (hpNew kd n h) (hpS h b).1 b = arw w h (hpS h b).1 b := by funext j; unfold arw; rw [eI b j hba, eL b j hba, eR b j hba]
      refine ⟨fun z1 z2 => ?_, fun z => ?_⟩
      · obtain ⟨qq, r1, r2⟩ := g1.1 z1 z2
        exact ⟨qq, r1, (r2.kept (ho _ hlt)).to (fun k _ => (e1 qq.2 k).symm)⟩
      · rw [ho _ hlt, e2]; exact g1.2 z
  · rw [eS b (by omega)]; exact h3 b (by omega)
  · have hba : b ≠ hpN h := by omega
    rw [eS b hba]
    obtain ⟨g1, g2, g3⟩ := h4 b hb
    exact ⟨g1, g2, fun k => by rw [eI b k hba, eL b k hba, eR b k hba]; exact g3 k⟩
  · rw [eS 0 (by omega)]; exact h5
/-- a step that makes one cell -/
theorem J.nw {K : Option ρ} {kd n : Nat} {st2 : List Value} (hx : On x cc own d)
    (hs : Ok x cc own d → ∀ (H : Heap) (locs : List Loc) (ls : Array Slot) (ce sl : Nat), hOk x.2.2.2 h H → va_S (wArea x.2.2.2) x.1.2.2.2.2.1.heap H locs → ce + 1 ≤ x.1.2.2.2.1.cells → sl + n ≤ x.1.2.2.2.1.slots →
      (∀ H1 locs1, hOk x.2.2.2 (hpNew kd n h) H1 → va_S (wArea x.2.2.2) x.1.2.2.2.2.1.heap H1 locs1 → W x.1.1 x.1.2.1 x.1.2.2.1 x.1.2.2.2.1 x.1.2.2.2.2.1 x.1.2.2.2.2.2 x.2.1.1 x.2.1.2.1 x.2.1.2.2.1 x.2.1.2.2.2.1 H1 locs1 (ce + 1) (sl + n) x.2.1.2.2.2.2 (F0 x.1.2.2.2.2.2 q ls st2)) →
      W x.1.1 x.1.2.1 x.1.2.2.1 x.1.2.2.2.1 x.1.2.2.2.2.1 x.1.2.2.2.2.2 x.2.1.1 x.2.1.2.1 x.2.1.2.2.1 x.2.1.2.2.2.1 H locs ce sl x.2.1.2.2.2.2 (F0 x.1.2.2.2.2.2 pc ls st))
    (k : J x q lv st2 (hpNew kd n h) K T) : J x pc lv st h K T := fun r hr ht => by
  obtain ⟨rfl, rfl, rfl⟩ := hx
  obtain ⟨⟨a1, a2⟩, a3⟩ := k r hr ht
  have eN : hpN (hpNew kd n h) = hpN h + 1 := rfl
  have eM : hpM (hpNew kd n h) = hpM h + n := rfl
  rw [eN] at a1
  rw [eM] at a2
  refine ⟨⟨by omega, by omega⟩, fun hok H locs ls hl hP hS hh => ?_⟩
  obtain ⟨-, -, hce, hsl⟩ := hok.2.2.2.2.2.2.2.2.1
  have l1 := hh.1
  have l2 := hh.2
  refine hs hok H locs ls _ _ hP hS (by omega) (by omega) fun H1 locs1 hP1 hS1 => ?_
  have hh' : hLe x.2.2.1.2.1 (hpNew kd n h) := ⟨by omega, by omega⟩
  have := a3 hok H1 locs1 ls hl hP1 hS1 hh'
  rw [eN, eM, show hpN h + 1 - hpN x.2.2.1.2.1 = hpN h - hpN x.2.2.1.2.1 + 1 by omega, show hpM h + n - hpM x.2.2.1.2.1 = hpM h - hpM x.2.2.1.2.1 + n by omega] at this
  exact this
theorem b2_if {c : Prop} [Decidable c] {α β : Type} {a : α} {b : β} {K : α → β → Option ρ} (k : c → J x pc lv st h (K a b) T) : J x pc lv st h (b2 (if c then some (a, b) else none) K) T := by
  by_cases hc : c
  · rw [if_pos hc]; exact k hc
  · rw [if_neg hc]; intro r hr; cases hr
theorem va_S.push {A : Nat → Prop} {H0 H H1 : Heap} {locs : List Loc} (hS : va_S A H0 H locs) (z1 : H1.size = H.size + 1) (o1 : ∀ q, q < H.size → H1[q]? = H[q]?) : va_S A H0 H1 locs :=
  ⟨Nat.le_trans hS.1 (by omega), fun x h1 h2 => (o1 x (Nat.lt_of_lt_of_le h1 hS.1)).trans (hS.2.1 x h1 h2), hS.2.2⟩
def tyOk (t : FieldType) : Bool := match t with
  | .int => true
  | .boolean => true
  | .byte => true
  | .long => true
  | .object _ => true
  | .array _ => true
  | _ => false
abbrev NWk (own : String) (i : Nat) (C : String) (N : Nat) (ty : Nat → FieldType) : Prop := Cond.classLink own i C ∈ TB ∧ Cond.instantiable C N ∈ TB ∧ Cond.initialized C ∈ TB ∧ ∀ k, k < N → tyOk (ty k) = true
theorem j_new (hx : On x cc own d) {c N i : Nat} {C : String} {Tt : u_T} {ty : Nat → FieldType} {K : Nat → Hp → Option ρ} (hd : decode cc pc = .ok (.new i, 3)) (hF : CF c C Tt N ty) (hc : c + 1 < 50) (hw : NWk own i C N ty) (hq : pc + 3 = q)
    (kk : ∀ v, v ≠ 0 → ∀ h', J x q lv (vR x.2.2.2 v :: st) h' (K v h') T) : J x pc lv st h (b2 (newO c N h) K) T := by
  subst hq
  refine b2_if fun h100 => ?_
  refine J.nw (kd := c + 1) (n := N) hx (fun hx H locs ls ce sl hP hS hce hsl k0 => ?_) (kk (hpN h) (by omega) _)
  obtain ⟨w1, w2, w3, w4⟩ := hw
  have hKn := hx.2.2.2.2.2.2.1.1.1 c _ (cls_fst hF)
  have hA := adr_new hP
  refine W.newcK hx.1 hx.2.1 hx.2.2.2.1 (hx.2.2.2.2.1 _ w1) (hx.2.2.2.2.1 _ w2) (hx.2.2.2.2.1 _ w3) rfl hd hce hsl hKn.2.1 rfl fun H1 kC hkC e1 z1 o1 => ?_
  have hcell : hCell x.2.2.2 (hpNew (c + 1) N h) H1 (hpN h) := by
    have hk : hpS (hpNew (c + 1) N h) (hpN h) = (c + 1, N) := if_pos rfl
    refine hCell.obj hF hc (by rw [hk]) (V := fun k => if k < N then defaultValue (ty k) else slv x.2.2.2 (hpNew (c + 1) N h) ty (hpN h) k) ?_ ?_
    · rw [hA]
      exact (u_born ty hx.2.2.2.2.1 hF.2.1 hKn hkC e1 hF.2.2.1).to fun k hk => by rw [if_pos hk]
    · intro j
      by_cases hj : j < N
      · rw [if_pos hj]
        have e1 : hpI (hpNew (c + 1) N h) (hpN h) j = 0 := if_pos rfl
        have e2 : hpL (hpNew (c + 1) N h) (hpN h) j = 0 := if_pos rfl
        have e3 : hpR (hpNew (c + 1) N h) (hpN h) j = 0 := if_pos rfl
        have e4 : vR x.2.2.2 0 = .null := if_pos rfl
        unfold slv
        rw [e1, e2, e3, e4]
        have := w4 j hj
        cases ht : ty j <;> rw [ht] at this <;> first | (exact absurd this (by decide)) | rfl
      · rw [if_neg hj]
  have hpos : vR x.2.2.2 (hpN h) = .ref H.size := by rw [vR_pos (by omega), hA]
  rw [hpos] at k0
  exact k0 H1 _ (hP.push (by omega) z1 o1 hcell) (hS.push z1 o1)
theorem newaT (hx : On x cc own d) {kd N t : Nat} {n : Int32} {atype : ArrayType} {ty : FieldType} {K : Nat → Hp → Option ρ} (hd : decode cc pc = .ok (.newarray atype, 2)) (hty : newarray.typeOf atype = ty) (hdf : ∀ w : Wd, ∀ j, defaultValue ty = arw w (hpNew kd N h) kd (hpN h) j) (hkd : 50 ≤ kd ∧ kd < 60)
    (ht : ∀ w, (tys0 w)[t]? = some (wA w kd, ty)) (hra : ∀ (U : State) (cA : ClassId), va_RA U cA ty = (U.vm.findClass ("[" ++ ty.toString) = some cA)) (hac : Cond.arrayClass ty ∈ TB) (hneg : ¬ n < 0) (hN : n.toNatClampNeg = N) (hb : N * componentBytes ty ≤ 536870912) (hq : pc + 2 = q)
    (kk : ∀ v, v ≠ 0 → ∀ h', J x q lv (vR x.2.2.2 v :: st) h' (K v h') T) : J x pc lv (.int n :: st) h (b2 (newA kd N h) K) T := by
  subst hq
  subst hty
  refine b2_if fun h100 => ?_
  refine J.nw (kd := kd) (n := N) hx (fun hx H locs ls ce sl hP hS hce hsl k0 => ?_) (kk (hpN h) (by omega) _)
  have hA := adr_new hP
  refine va_newaK hx.1 hx.2.1 (atype := atype) (hx.2.2.2.2.1 _ hac) rfl hd rfl hneg hN hb hce hsl rfl fun H1 cA e1 z1 o1 hAr hNm => ?_
  have hcA : cA = wA x.2.2.2 kd := by
    have h2 := (hx.2.2.2.2.2.2.1.1.2 t _ (ht _)).2
    rw [hra] at h2
    exact Option.some.inj (hNm.symm.trans h2)
  subst hcA
  have hcell : hCell x.2.2.2 (hpNew kd N h) H1 (hpN h) := by
    have hk : hpS (hpNew kd N h) (hpN h) = (kd, N) := if_pos rfl
    exact hCell.arr (kd := kd) hkd.1 (by rw [hk]) (by rw [hA, hk]; exact e1) fun j => hdf _ j
  have hpos : vR x.2.2.2 (hpN h) = .ref H.size := by rw [vR_pos (by omega), hA]
  rw [hpos] at k0
  exact k0 H1 _ (hP.push (by omega) z1 o1 hcell) (hS.push z1 o1)
theorem newI0 {kd N : Nat} (h1 : kd ≠ 51) (h2 : kd < 60) (w : Wd) (j : Nat) : Value.int 0 = arw w (hpNew kd N h) kd (hpN h) j := by
  rw [arw_I h1 h2]
  show _ = Value.int (if hpN h = hpN h then 0 else h.2.1 (hpN h) j)
  rw [if_pos rfl]
theorem newL0 {N : Nat} (w : Wd) (j : Nat) : Value.long 0 = arw w (hpNew 51 N h) 51 (hpN h) j := by
  rw [arw_L]
  show _ = Value.long (if hpN h = hpN h then 0 else h.2.2.1 (hpN h) j)
  rw [if_pos rfl]
theorem newR0 {kd N : Nat} (h2 : 60 ≤ kd) (w : Wd) (j : Nat) : Value.null = arw w (hpNew kd N h) kd (hpN h) j := by
  rw [arw_R h2]
  show _ = vR w (if hpN h = hpN h then 0 else h.2.2.2.1 (hpN h) j)
  rw [if_pos rfl]; rfl
theorem j_newarray50 (hx : On x cc own d) {N : Nat} {n : Int32} {K : Nat → Hp → Option ρ} (hd : decode cc pc = .ok (.newarray .int, 2)) (hac : Cond.arrayClass .int ∈ TB) (hneg : ¬ n < 0) (hN : n.toNatClampNeg = N) (hb : N * componentBytes .int ≤ 536870912) (hq : pc + 2 = q)
    (kk : ∀ v, v ≠ 0 → ∀ h', J x q lv (vR x.2.2.2 v :: st) h' (K v h') T) : J x pc lv (.int n :: st) h (b2 (newA 50 N h) K) T :=
  newaT (t := 0) hx hd rfl (fun w j => newI0 (by omega) (by omega) w j) ⟨by omega, by omega⟩ (fun _ => rfl) (fun _ _ => rfl) hac hneg hN hb hq kk
theorem j_newarray51 (hx : On x cc own d) {N : Nat} {n : Int32} {K : Nat → Hp → Option ρ} (hd : decode cc pc = .ok (.newarray .long, 2)) (hac : Cond.arrayClass .long ∈ TB) (hneg : ¬ n < 0) (hN : n.toNatClampNeg = N) (hb : N * componentBytes .long ≤ 536870912) (hq : pc + 2 = q)
    (kk : ∀ v, v ≠ 0 → ∀ h', J x q lv (vR x.2.2.2 v :: st) h' (K v h') T) : J x pc lv (.int n :: st) h (b2 (newA 51 N h) K) T :=
  newaT (t := 1) hx hd rfl (fun w j => newL0 w j) ⟨by omega, by omega⟩ (fun _ => rfl) (fun _ _ => rfl) hac hneg hN hb hq kk
theorem j_newarray52 (hx : On x cc own d) {N : Nat} {n : Int32} {K : Nat → Hp → Option ρ} (hd : decode cc pc = .ok (.newarray .boolean, 2)) (hac : Cond.arrayClass .boolean ∈ TB) (hneg : ¬ n < 0) (hN : n.toNatClampNeg = N) (hb : N * componentBytes .boolean ≤ 536870912) (hq : pc + 2 = q)
    (kk : ∀ v, v ≠ 0 → ∀ h', J x q lv (vR x.2.2.2 v :: st) h' (K v h') T) : J x pc lv (.int n :: st) h (b2 (newA 52 N h) K) T :=
  newaT (t := 2) hx hd rfl (fun w j => newI0 (by omega) (by omega) w j) ⟨by omega, by omega⟩ (fun _ => rfl) (fun _ _ => rfl) hac hneg hN hb hq kk
theorem j_anew (hx : On x cc own d) {c t N i : Nat} {n : Int32} {C : String} {K : Nat → Hp → Option ρ} (hd : decode cc pc = .ok (.anewarray i, 3)) (hcl : Cond.classLink own i C ∈ TB) (ht : refs0[t]? = some (c, C)) (hc : c < 20) (hao : ∀ (U : State) (H : Heap) (w : Wd), roOk w U H → va_AO C U) (hneg : ¬ n < 0) (hN : n.toNatClampNeg = N) (hb : N * 4 ≤ 536870912) (hq : pc + 3 = q)
    (kk : ∀ v, v ≠ 0 → ∀ h', J x q lv (vR x.2.2.2 v :: st) h' (K v h') T) : J x pc lv (.int n :: st) h (b2 (newA (60 + c) N h) K) T := by
  subst hq
  subst hN
  refine b2_if fun h100 => ?_
  refine J.nw (kd := 60 + c) (n := n.toNatClampNeg) hx (fun hx H locs ls ce sl hP hS hce hsl k0 => ?_) (kk (hpN h) (by omega) _)
  have hA := adr_new hP
  refine W.anew hx.1 hx.2.1 hx.2.2.2.1 (hx.2.2.2.2.1 _ hcl) (va_AO.use (hao _ _ _ hx.2.2.2.2.2.2.2.2.2.2)) rfl hd rfl hneg hb hce hsl fun cA kA comp f1 f2 f3 f4 => ?_
  generalize hH1 : H.push ({ cls := cA, slots := Array.replicate n.toNatClampNeg .null, vm := .none } : Cell) = H1
  have z1 : H1.size = H.size + 1 := by rw [← hH1, Array.size_push]
  have e1 : H1[H.size]? = some (arrV cA n.toNatClampNeg (fun _ => .null)) := by rw [← hH1, Array.getElem?_push_size, ← arrV_new]
  have o1 : ∀ q : Nat, q < H.size → H1[q]? = H[q]? := fun q hq => by rw [← hH1, Array.getElem?_push, if_neg (Nat.ne_of_lt hq)]
  have e3 : (tys0 x.2.2.2)[5 + t]? = some (wA x.2.2.2 (60 + c), .object C) := by
    unfold tys0
    rw [List.getElem?_append_right (by simp), show 5 + t - [(wA x.2.2.2 50, FieldType.int), (wA x.2.2.2 51, .long), (wA x.2.2.2 52, .boolean), (wA x.2.2.2 53, .byte), (wA x.2.2.2 79, .array .boolean)].length = t by simp, List.getElem?_map, ht]
    rfl
  have hcA : cA = wA x.2.2.2 (60 + c) := by
    obtain ⟨kA', comp', -, -, -, h5⟩ := (hx.2.2.2.2.2.2.1.1.2 _ _ e3).2
    exact Option.some.inj (f1.symm.trans h5)
  subst hcA
  have hcell : hCell x.2.2.2 (hpNew (60 + c) n.toNatClampNeg h) H1 (hpN h) := by
    have hk : hpS (hpNew (60 + c) n.toNatClampNeg h) (hpN h) = (60 + c, n.toNatClampNeg) := if_pos rfl
    exact hCell.arr (kd := 60 + c) (by omega) (by rw [hk]) (by rw [hA, hk]; exact e1) fun j => newR0 (by omega) _ j
  have hpos : vR x.2.2.2 (hpN h) = .ref H.size := by rw [vR_pos (by omega), hA]
  rw [hpos] at k0
  exact k0 H1 _ (hP.push (by omega) z1 o1 hcell) (hS.push z1 o1)
theorem j_anewarray65 (hx : On x cc own d) {N i : Nat} {n : Int32} {K : Nat → Hp → Option ρ} (hd : decode cc pc = .ok (.anewarray i, 3)) (hcl : Cond.classLink own i RX5 ∈ TB) (hneg : ¬ n < 0) (hN : n.toNatClampNeg = N) (hb : N * 4 ≤ 536870912) (hq : pc + 3 = q)
    (kk : ∀ v, v ≠ 0 → ∀ h', J x q lv (vR x.2.2.2 v :: st) h' (K v h') T) : J x pc lv (.int n :: st) h (b2 (newA 65 N h) K) T :=
  j_anew (c := 5) (t := 0) (C := RX5) hx hd hcl rfl (by omega) (fun U H w hr => hr.2.2.2.2.2.2.2.1) hneg hN hb hq kk
theorem j_anewarray70 (hx : On x cc own d) {N i : Nat} {n : Int32} {K : Nat → Hp → Option ρ} (hd : decode cc pc = .ok (.anewarray i, 3)) (hcl : Cond.classLink own i RX10 ∈ TB) (hneg : ¬ n < 0) (hN : n.toNatClampNeg = N) (hb : N * 4 ≤ 536870912) (hq : pc + 3 = q)
    (kk : ∀ v, v ≠ 0 → ∀ h', J x q lv (vR x.2.2.2 v :: st) h' (K v h') T) : J x pc lv (.int n :: st) h (b2 (newA 70 N h) K) T :=
  j_anew (c := 10) (t := 1) (C := RX10) hx hd hcl rfl (by omega) (fun U H w hr => hr.2.2.2.2.2.2.2.2) hneg hN hb hq kk
/-- Object's own constructor -/
theorem j_obj (hx : On x cc own d) {i a : Nat} {K : Option ρ} (hd : decode cc pc = .ok (.invokespecial i, 3)) (hw : Cond.methodLink own i Lib.objectInit ∈ TB ∧ Cond.instanceMethod Lib.objectInit ∈ TB ∧ Cond.code Lib.objectInit ⟨#[0xb1]⟩ 1 none ∈ TB) (ha : a ≠ 0) (h1 : 1 ≤ d) (hst : (st.map fun v => v.category).sum ≤ 8) (hq : pc + 3 = q)
    (kk : J x q lv st h K T) : J x pc lv (vR x.2.2.2 a :: st) h K T := by
  subst hq
  intro r hr ht
  obtain ⟨a1, a2⟩ := kk r hr ht
  obtain ⟨rfl, rfl, rfl⟩ := hx
  refine ⟨a1, fun hok H locs ls hl2 hP hS hh => ?_⟩
  obtain ⟨r1, r2, r3, r4⟩ := hok.2.2.2.2.2.2.2.2.1
  rw [vR_pos ha]
  exact W.objInit hok.1 hok.2.1 hok.2.2.2.1 (hok.2.2.2.2.1 _ hw.1) (hok.2.2.2.2.1 _ hw.2.1) (hok.2.2.2.2.1 _ hw.2.2) rfl (hl2.1.trans hok.2.2.1.symm) rfl hd (by omega) (by show 2 * 0 + _ + 12 ≤ _; omega) (a2 hok H locs ls hl2 hP hS hh)
/-- static arrays -/
theorem j_gs (hx : On x cc own d) {i a : Nat} {C n dsc : String} {K : Option ρ} (hd : decode cc pc = .ok (.getstatic i, 3)) (hw : Cond.fieldLink own i C n dsc ∈ TB ∨ ∃ host, Cond.fieldLinkNest own i C n dsc host ∈ NW) (hz : ∀ (w : Wd) (U : State) (H : Heap), roOk w U H → va_Z C n dsc (vR w a) (wArea w) U H) (hq : pc + 3 = q)
    (kk : J x q lv (vR x.2.2.2 a :: st) h K T) : J x pc lv st h K T := by
  subst hq
  refine J.rd hx (fun hx H locs ls ce sl hP hS k0 => ?_) kk
  rcases hw with hw | ⟨host, hw⟩
  · exact va_gets hx.1 hx.2.1 (hz _ _ _ hx.2.2.2.2.2.2.2.2.2.2) hS hx.2.2.2.1 (hx.2.2.2.2.1 _ hw) (fun _ h => h) hd k0
  · exact va_getsN hx.1 hx.2.1 (hz _ _ _ hx.2.2.2.2.2.2.2.2.2.2) hS hx.2.2.2.1 (va_Nw.use rfl (hx.2.2.2.2.2.2.1.2 _ hw)) (fun _ h => h) hd k0
end NR
