/-! what the law's own methods and the JDK's need besides: calls of what is inherited, of a superclass, through an interface; casts; rows of references of more kinds; doubles -/
def dNN (r : UInt64) : Option UInt64 := if r &&& 0x7fffffffffffffff ≤ 0x7ff0000000000000 then some r else none
def oLn (a : Nat) (h : Hp) : Option Int32 := if a = 4 then some 0 else aLen a h
def stO (a : Nat) (i : Int32) (v : Nat) (h : Hp) : Option Hp := if ((hpS h a).1 = 78 ∧ inB i (hpS h a).2 = true) ∧ ((hpS h v).1 = 13 ∨ (hpS h v).1 = 14) then some (upR h a (ixN i) v) else none
def stN (c a : Nat) (i : Int32) (h : Hp) : Option Hp := if (hpS h a).1 = 60 + c ∧ inB i (hpS h a).2 = true then some (upR h a (ixN i) 0) else none
def newV (kd : Nat) (n : Int32) (h : Hp) : Option (Nat × Hp) := if ¬ n < 0 ∧ n.toNatClampNeg ≤ 100000 then newA kd n.toNatClampNeg h else none
section DR
variable {x : Cx} {cc : ByteArray} {own : String} {d pc q : Nat} {lv lv' : List (Nat × Value)} {st : List Value} {h : Hp} {ρ : Type} {K : Option ρ} {T : ρ → Prop}
theorem j_dup_x1 (hx : On x cc own d) {va vb : Value} (hd : decode cc pc = .ok (.dup_x1, 1)) (hva : va.category = 1) (hvb : vb.category = 1) (hq : pc + 1 = q) (kk : J x q lv (va :: vb :: va :: st) h K T) : J x pc lv (va :: vb :: st) h K T :=
  J.step hx (fun hx H locs ls ce sl h0 k0 => lv_dup_x1 hx.1 hx.2.1 hd hva hvb (hq ▸ k0 ls h0)) kk
theorem j_pop2 (hx : On x cc own d) {v : Int64} (hd : decode cc pc = .ok (.pop2, 1)) (hq : pc + 1 = q) (kk : J x q lv st h K T) : J x pc lv (.long v :: st) h K T :=
  J.step hx (fun hx H locs ls ce sl h0 k0 => lv_pop2_2 hx.1 hx.2.1 hd rfl (hq ▸ k0 ls h0)) kk
/-! doubles -/
theorem j_dload_n (hx : On x cc own d) {k : Fin 4} {i : Nat} {v : UInt64} (hd : decode cc pc = .ok (.dload_n k, 1)) (hi : (k : Nat) = i) (p : Nat) (hl : lv[p]? = some (i, .double v)) (hq : pc + 1 = q) (kk : J x q lv (.double v :: st) h K T) : J x pc lv st h K T :=
  J.step hx (fun hx H locs ls ce sl h0 k0 => lv_dload_n hx.1 hx.2.1 hd hi (lv_at h0 p hl) (hq ▸ k0 ls h0)) kk
theorem j_dload (hx : On x cc own d) {i : Nat} {v : UInt64} (hd : decode cc pc = .ok (.dload i, 2)) (p : Nat) (hl : lv[p]? = some (i, .double v)) (hq : pc + 2 = q) (kk : J x q lv (.double v :: st) h K T) : J x pc lv st h K T :=
  J.step hx (fun hx H locs ls ce sl h0 k0 => lv_dload hx.1 hx.2.1 hd (lv_at h0 p hl) (hq ▸ k0 ls h0)) kk
theorem j_dstore_n (hx : On x cc own d) {k : Fin 4} {i : Nat} {v : UInt64} {l2 : List (Nat × Value)} (hd : decode cc pc = .ok (.dstore_n k, 1)) (hi : (k : Nat) = i) (hn : i + 1 < x.2.2.1.1.1) (ks : List Nat) (hl : lv_pick lv ks = l2) (hc : stC i l2) (hc2 : ∀ q ∈ l2, q.1 ≠ i + 1) (hq : pc + 1 = q) (kk : J x q ((i, .double v) :: l2) st h K T) : J x pc lv (.double v :: st) h K T :=
  J.step hx (fun hx H locs ls ce sl h0 k0 => lv_dstore_n hx.1 hx.2.1 hd hi h0 hn rfl (fun ls2 h2 => hq ▸ k0 ls2 (lv_keep2 hl hc hc2 h2))) kk
theorem j_dstore (hx : On x cc own d) {i : Nat} {v : UInt64} {l2 : List (Nat × Value)} (hd : decode cc pc = .ok (.dstore i, 2)) (hn : i + 1 < x.2.2.1.1.1) (ks : List Nat) (hl : lv_pick lv ks = l2) (hc : stC i l2) (hc2 : ∀ q ∈ l2, q.1 ≠ i + 1) (hq : pc + 2 = q) (kk : J x q ((i, .double v) :: l2) st h K T) : J x pc lv (.double v :: st) h K T :=
  J.step hx (fun hx H locs ls ce sl h0 k0 => lv_dstore hx.1 hx.2.1 hd h0 hn rfl (fun ls2 h2 => hq ▸ k0 ls2 (lv_keep2 hl hc hc2 h2))) kk
theorem j_dconst0 (hx : On x cc own d) (hd : decode cc pc = .ok (.dconst 0, 1)) (hq : pc + 1 = q) (kk : J x q lv (.double 0 :: st) h K T) : J x pc lv st h K T :=
  J.step hx (fun hx H locs ls ce sl h0 k0 => lv_dconst0 hx.1 hx.2.1 hd (hq ▸ k0 ls h0)) kk
theorem j_ldc2D (hx : On x cc own d) {i : Nat} {v : UInt64} (hc : Cond.constantDouble own i v ∈ TB) (hd : decode cc pc = .ok (.ldc2_w i, 3)) (hq : pc + 3 = q) (kk : J x q lv (.double v :: st) h K T) : J x pc lv st h K T :=
  J.step hx (fun hx H locs ls ce sl h0 k0 => lv_ldc2d hx.1 hx.2.1 hx.2.2.2.1 (hx.2.2.2.2.1 _ hc) hd (hq ▸ k0 ls h0)) kk
theorem j_i2d (hx : On x cc own d) {a : Int32} (hd : decode cc pc = .ok (.i2d, 1)) (hq : pc + 1 = q) (kk : J x q lv (.double (FP.i2d a) :: st) h K T) : J x pc lv (.int a :: st) h K T :=
  J.step hx (fun hx H locs ls ce sl h0 k0 => lv_i2d hx.1 hx.2.1 hd (hq ▸ k0 ls h0)) kk
theorem j_l2d (hx : On x cc own d) {a : Int64} (hd : decode cc pc = .ok (.l2d, 1)) (hq : pc + 1 = q) (kk : J x q lv (.double (FP.l2d a) :: st) h K T) : J x pc lv (.long a :: st) h K T :=
  J.step hx (fun hx H locs ls ce sl h0 k0 => lv_l2d hx.1 hx.2.1 hd (hq ▸ k0 ls h0)) kk
theorem j_dcmp (hx : On x cc own d) {a b : UInt64} {op : CmpOp} (hd : decode cc pc = .ok (.dcmp op, 1)) (hq : pc + 1 = q) (kk : J x q lv (.int (Op.cmpValue (FP.dcmp a b) op) :: st) h K T) : J x pc lv (.double b :: .double a :: st) h K T :=
  J.step hx (fun hx H locs ls ce sl h0 k0 => lv_dcmp hx.1 hx.2.1 hd (hq ▸ k0 ls h0)) kk
theorem dNN_bind {r : UInt64} {K : UInt64 → Option ρ} (k : vf_n64 r → J x pc lv st h (K r) T) : J x pc lv st h ((dNN r).bind K) T := by
  by_cases hr : r &&& 0x7fffffffffffffff ≤ 0x7ff0000000000000
  · rw [show dNN r = some r from if_pos hr]; exact k hr
  · rw [show dNN r = none from if_neg hr]; intro r hr; cases hr
theorem j_dadd (hx : On x cc own d) {a b : UInt64} {K : UInt64 → Option ρ} (hd : decode cc pc = .ok (.dadd, 1)) (hq : pc + 1 = q) (kk : ∀ v, J x q lv (.double v :: st) h (K v) T) : J x pc lv (.double b :: .double a :: st) h ((dNN (FP.dadd a b)).bind K) T :=
  dNN_bind fun hr => J.step hx (fun hx H locs ls ce sl h0 k0 => lv_dadd hx.1 hx.2.1 hd hr (hq ▸ k0 ls h0)) (kk _)
theorem j_dsub (hx : On x cc own d) {a b : UInt64} {K : UInt64 → Option ρ} (hd : decode cc pc = .ok (.dsub, 1)) (hq : pc + 1 = q) (kk : ∀ v, J x q lv (.double v :: st) h (K v) T) : J x pc lv (.double b :: .double a :: st) h ((dNN (FP.dsub a b)).bind K) T :=
  dNN_bind fun hr => J.step hx (fun hx H locs ls ce sl h0 k0 => lv_dsub hx.1 hx.2.1 hd hr (hq ▸ k0 ls h0)) (kk _)
theorem j_dmul (hx : On x cc own d) {a b : UInt64} {K : UInt64 → Option ρ} (hd : decode cc pc = .ok (.dmul, 1)) (hq : pc + 1 = q) (kk : ∀ v, J x q lv (.double v :: st) h (K v) T) : J x pc lv (.double b :: .double a :: st) h ((dNN (FP.dmul a b)).bind K) T :=
  dNN_bind fun hr => J.step hx (fun hx H locs ls ce sl h0 k0 => lv_dmul hx.1 hx.2.1 hd hr (hq ▸ k0 ls h0)) (kk _)
theorem j_ddiv (hx : On x cc own d) {a b : UInt64} {K : UInt64 → Option ρ} (hd : decode cc pc = .ok (.ddiv, 1)) (hq : pc + 1 = q) (kk : ∀ v, J x q lv (.double v :: st) h (K v) T) : J x pc lv (.double b :: .double a :: st) h ((dNN (FP.ddiv a b)).bind K) T :=
  dNN_bind fun hr => J.step hx (fun hx H locs ls ce sl h0 k0 => lv_ddiv hx.1 hx.2.1 hd hr (hq ▸ k0 ls h0)) (kk _)
theorem sum_D {l : List Value} {n : Nat} {v : UInt64} (h : (l.map fun v => v.category).sum = n) : ((Value.double v :: l).map fun v => v.category).sum = n + 2 := by
  rw [List.map_cons, List.sum_cons, h]; exact Nat.add_comm 2 n
theorem lv_argsD (i : Nat) (v : UInt64) (vs : List Value) : lv_args i (.double v :: vs) = (i, .double v) :: lv_args (i + 2) vs := rfl
theorem lg_lenD (v : UInt64) (vs : List Value) : (lg_sl (.double v :: vs)).length = (lg_sl vs).length + 2 := by
  show (List.flatMap _ _).length = _
  rw [List.flatMap_cons, List.length_append]
  exact Nat.add_comm _ _
/-- raw bits and back -/
def snD (b : Int64) : Option UInt64 := if vn_snl2d b = false then some b.toUInt64 else none
theorem j_d2raw (hx : On x cc own d) {i : Nat} {a : UInt64} (hd : decode cc pc = .ok (.invokestatic i, 3)) (hl : Cond.methodLink own i ⟨"java/lang/Double", "doubleToRawLongBits", "(D)J"⟩ ∈ TB) (hw : Cond.native ⟨"java/lang/Double", "doubleToRawLongBits", "(D)J"⟩ ∈ TB ∧ Cond.static ⟨"java/lang/Double", "doubleToRawLongBits", "(D)J"⟩ ∈ TB ∧ Cond.initialized "java/lang/Double" ∈ TB) (h1 : 1 ≤ d) (hst : (st.map fun v => v.category).sum ≤ 8) (hq : pc + 3 = q)
    (kk : J x q lv (.long a.toInt64 :: st) h K T) : J x pc lv (.double a :: st) h K T := by
  subst hq
  intro r hr ht
  obtain ⟨a1, a2⟩ := kk r hr ht
  obtain ⟨rfl, rfl, rfl⟩ := hx
  refine ⟨a1, fun hok H locs ls hl2 hP hS hh => ?_⟩
  obtain ⟨r1, r2, r3, r4⟩ := hok.2.2.2.2.2.2.2.2.1
  exact vn_d2l hok.1 hok.2.1 (hok.2.2.1.trans hl2.1.symm) hok.2.2.2.1 (hok.2.2.2.2.1 _ hl) (hok.2.2.2.2.1 _ hw.1) (hok.2.2.2.2.1 _ hw.2.1) (hok.2.2.2.2.1 _ hw.2.2) (by omega) (by omega) hd (a2 hok H locs ls hl2 hP hS hh)
theorem j_raw2d (hx : On x cc own d) {i : Nat} {a : Int64} {K : UInt64 → Option ρ} (hd : decode cc pc = .ok (.invokestatic i, 3)) (hl : Cond.methodLink own i ⟨"java/lang/Double", "longBitsToDouble", "(J)D"⟩ ∈ TB) (hw : Cond.native ⟨"java/lang/Double", "longBitsToDouble", "(J)D"⟩ ∈ TB ∧ Cond.static ⟨"java/lang/Double", "longBitsToDouble", "(J)D"⟩ ∈ TB ∧ Cond.initialized "java/lang/Double" ∈ TB) (h1 : 1 ≤ d) (hst : (st.map fun v => v.category).sum ≤ 8) (hq : pc + 3 = q)
    (kk : ∀ v, J x q lv (.double v :: st) h (K v) T) : J x pc lv (.long a :: st) h ((snD a).bind K) T := by
  subst hq
  by_cases hz : vn_snl2d a = false
  · rw [show snD a = some a.toUInt64 from if_pos hz]
    intro r hr ht
    obtain ⟨a1, a2⟩ := kk a.toUInt64 r hr ht
    obtain ⟨rfl, rfl, rfl⟩ := hx
    refine ⟨a1, fun hok H locs ls hl2 hP hS hh => ?_⟩
    obtain ⟨r1, r2, r3, r4⟩ := hok.2.2.2.2.2.2.2.2.1
    exact vn_l2d hok.1 hok.2.1 (hok.2.2.1.trans hl2.1.symm) hok.2.2.2.1 (hok.2.2.2.2.1 _ hl) (hok.2.2.2.2.1 _ hw.1) (hok.2.2.2.2.1 _ hw.2.1) (hok.2.2.2.2.1 _ hw.2.2) hz (by omega) (by omega) hd (a2 hok H locs ls hl2 hP hS hh)
  · rw [show snD a = none from if_neg hz]; intro r hr; cases hr
theorem r_dR (hx : On x cc own d) {u v : UInt64} (R : Rt x h h (some (.double u)) (some .double)) (hd : decode cc pc = .ok (.dreturn, 1)) : J x pc lv [.double v] h (some v) (fun r => r = u) := by
  intro r' hr' hT
  have hr' : v = r' := Option.some.inj hr'
  subst hr'
  subst hT
  obtain ⟨h0e, hfe, hr, hQ⟩ := R
  refine ⟨by rw [hfe]; exact hLe.rf, fun hok H locs ls hl hP hS hh => ?_⟩
  obtain ⟨rfl, rfl, rfl⟩ := hx
  have hx := hok
  rw [hQ, h0e]
  have hlocks := hx.2.2.2.2.2.1
  have hr := hx.2.2.2.2.2.2.2.1.1.trans hr
  exact W.dret hx.1 hx.2.1 hr (fun t ht hW => ⟨rfl, by rw [ht]; exact hP, hS.F ht⟩) hS.2.2 hd hlocks
theorem w_cSDR {mi : Mi} {F : Option UInt64} {K : UInt64 → Option ρ} {i d' n : Nat} {As : List Value} (hx : On x cc own d) (hd : decode cc pc = .ok (.invokestatic i, 3)) (cw : cIn mi own i d d' n) (cs : Cond.static mi.1 ∈ TB) (hn : As.length = n)
    (hM : ∀ u, F = some u → M1 x.1.2.1 x.2.2.2 mi d' As h h (some (.double u))) (hst : (st.map fun v => v.category).sum ≤ 8) (hq : pc + 3 = q) (kk : ∀ v, J x q lv (.double v :: st) h (K v) T) : J x pc lv (As.reverse ++ st) h (F.bind K) T :=
  j_callS (σ := UInt64) (hp := fun _ => h) (rs := fun u => some (.double u)) hx hd ⟨cw, cs⟩ hn hM hst hq (fun u => kk u)
/-! references -/
theorem j_acmp4 (hx : On x cc own d) {a : Nat} {off : Int} {tgt : Nat} {K1 K2 : Option ρ} (hd : decode cc pc = .ok (.if_acmp .eq off, 3)) (ht : (pc : Int) + off = (tgt : Int)) (hq : pc + 3 = q) (k1 : J x tgt lv st h K1 T) (k2 : J x q lv st h K2 T) : J x pc lv (vR x.2.2.2 4 :: vR x.2.2.2 a :: st) h (if a = 4 then K1 else if 99 ≤ a then K2 else none) T := by
  subst hq
  have e4 : vR x.2.2.2 4 = va_rf (some (adr x.2.2.2 4)) := vR_pos (by omega)
  by_cases hz : a = 4
  · rw [if_pos hz]
    subst hz
    rw [e4]
    exact J.step hx (fun hx H locs ls ce sl h0 k0 => lv_acmp_eq hx.1 hx.2.1 hd ht (fun _ => k0 ls h0) (fun n => absurd rfl n)) k1
  · rw [if_neg hz]
    by_cases h1 : 99 ≤ a
    · rw [if_pos h1]
      have ea : vR x.2.2.2 a = va_rf (some (adr x.2.2.2 a)) := vR_pos (by omega)
      rw [e4, ea]
      exact J.step hx (fun hx H locs ls ce sl h0 k0 => lv_acmp_eq hx.1 hx.2.1 hd ht (fun n => by
        exfalso
        have n := Option.some.inj n
        obtain ⟨cell, -, -, -, -, -, -, r7⟩ := hx.2.2.2.2.2.2.2.2.2.2.2.2.1.2.1
        refine r7 ?_
        rw [← n]
        exact adr_area h1) (fun _ => k0 ls h0)) k2
    · rw [if_neg h1]; exact j_none
theorem j_oLn (hx : On x cc own d) {a : Nat} {K : Int32 → Option ρ} (hd : decode cc pc = .ok (.arraylength, 1)) (hq : pc + 1 = q)
    (kk : ∀ v, J x q lv (.int v :: st) h (K v) T) : J x pc lv (vR x.2.2.2 a :: st) h ((oLn a h).bind K) T := by
  by_cases ha : a = 4
  · subst ha
    subst hq
    rw [show oLn 4 h = some 0 from rfl]
    refine J.rd hx (fun hx H locs ls ce sl hP hS k0 => ?_) (kk 0)
    obtain ⟨cell, r1, r2, r3, r4, r5, r6⟩ := ofT hS hx.2.2.2.2.2.2.2.2.2.2.2.2.1.2.1
    rw [vR_pos (by omega)]
    exact W.alen hx.1 hx.2.1 r1 r2 r5 rfl rfl hd k0
  · rw [show oLn a h = aLen a h from if_neg ha]
    exact j_alen hx hd hq kk
theorem j_ldR79 (hx : On x cc own d) {a : Nat} {i : Int32} {K : Nat → Option ρ} (hd : decode cc pc = .ok (.aaload, 1)) (hq : pc + 1 = q)
    (kk : ∀ v, J x q lv (vR x.2.2.2 v :: st) h (K v) T) : J x pc lv (.int i :: vR x.2.2.2 a :: st) h ((ldR 19 a i h).bind K) T := by
  subst hq
  refine J.ite fun hk => J.rd hx (fun hx H locs ls ce sl hP hS k0 => ?_) (kk _)
  obtain ⟨hk1, hk2⟩ := hk
  have hlt := ix_lt hk2
  obtain ⟨ha, hb, ho⟩ := arr_of hP (by omega) (by omega) hk1
  rw [vR_pos (by omega)]
  exact W.aald (ty := .array .boolean) (v := vR x.2.2.2 (hpR h a (ixN i))) hx.1 hx.2.1 ho (tyOf hx 4 rfl _ _) rfl (fun q => by cases q) (by rw [arrV_size]; exact inB_vp hk2) (by rw [arrV_read _ _ hlt, arw_R (by omega)]; rfl) rfl rfl hd k0
theorem tyObj (w : Wd) (t : Nat) {c : Nat} {C : String} (ht : refs0[t]? = some (c, C)) : (tys0 w)[5 + t]? = some (wA w (60 + c), .object C) := by
  unfold tys0
  rw [List.getElem?_append_right (by simp), show 5 + t - [(wA w 50, FieldType.int), (wA w 51, .long), (wA w 52, .boolean), (wA w 53, .byte), (wA w 79, .array .boolean)].length = t by simp, List.getElem?_map, ht]
  rfl
theorem w_stN (hx : On x cc own d) {t c a : Nat} {C : String} {i : Int32} {K : Hp → Option ρ} (hd : decode cc pc = .ok (.aastore, 1)) (hq : pc + 1 = q) (hc : c < 20) (ht : refs0[t]? = some (c, C))
    (kk : ∀ h', J x q lv st h' (K h') T) : J x pc lv (vR x.2.2.2 0 :: .int i :: vR x.2.2.2 a :: st) h ((stN c a i h).bind K) T := by
  subst hq
  refine J.ite2 fun hk => J.wr (h' := upR h a (ixN i) 0) hx rfl rfl (fun hx H locs ls ce sl hP hS k0 => ?_) (kk _)
  have hlt := ix_lt hk.2
  obtain ⟨ha, hb, ho⟩ := arr_of hP (by omega) (by omega) hk.1
  rw [vR_pos (show a ≠ 0 by omega)]
  refine va_WaastN (C := C) hx.1 hx.2.1 ho (tyOf hx _ (tyObj _ t ht) _ _) (fun q => by cases q) (by rw [arrV_size]; exact inB_vp hk.2) rfl rfl hd fun H1 e1 e2 e4 => k0 H1 _ (hP.upR ha e2 e4 fun _ => hCell.arr (kd := 60 + c) (by omega) hk.1 (by rw [e1, arrV_store]; rfl) fun j => ?_) (hS.put e2 e4 (adr_area ha))
  rw [arw_R (by omega), arw_R (by omega)]
  show (if j = ixN i then Value.null else vR x.2.2.2 (hpR h a j)) = vR x.2.2.2 (up2 h.2.2.2.1 a (ixN i) 0 a j)
  rw [up2_at]
  by_cases e : j = ixN i
  · rw [if_pos e, if_pos e]; rfl
  · rw [if_neg e, if_neg e]; rfl
theorem stO_of (hx : On x cc own d) {a v : Nat} {i : Int32} {c N : Nat} {C : String} {Tt : u_T} {ty : Nat → FieldType} {K : Hp → Option ρ} (hd : decode cc pc = .ok (.aastore, 1)) (hF : CF c C Tt N ty) (hc : c + 1 < 50) (hca : ∀ (w : Wd) (U : State) (H : Heap), roOk w U H → va_Nw (.castable C "java/lang/Object") U)
    (hk : (hpS h a).1 = 78 ∧ inB i (hpS h a).2 = true) (hz : (hpS h v).1 = c + 1) (kk : ∀ h', J x (pc + 1) lv st h' (K h') T) : J x pc lv (vR x.2.2.2 v :: .int i :: vR x.2.2.2 a :: st) h (K (upR h a (ixN i) v)) T := by
  refine J.wr (h' := upR h a (ixN i) v) hx rfl rfl (fun hx H locs ls ce sl hP hS k0 => ?_) (kk _)
  have hlt := ix_lt hk.2
  obtain ⟨ha, hb, ho⟩ := arr_of hP (by omega) (by omega) hk.1
  obtain ⟨hva, hvb, cellV, g1, g2, g3, -⟩ := obj_of hP hF hc hz
  rw [vR_pos (show v ≠ 0 by omega), vR_pos (show a ≠ 0 by omega)]
  have hK := hx.2.2.2.2.2.2.1.1
  have hcls := (hK.1 c _ (cls_fst hF)).2
  obtain ⟨kA, comp, k1, k2, k3, -⟩ := (hK.2 _ _ (tyObj _ 3 rfl)).2
  obtain ⟨kE, hkE, -⟩ := Vm.findClass_spec k3
  obtain ⟨c0, t1, f1, f2, f3⟩ := Cond.castable_spec (va_Nw.use (A := x.2.1.1) rfl (hca _ _ _ hx.2.2.2.2.2.2.2.2.2.2))
  cases hcls.1.symm.trans f1
  cases k3.symm.trans f2
  obtain ⟨kC, hkC, -⟩ := id hcls.2
  have h0 : ¬ i < 0 := fun q => inB_vp hk.2 (Or.inl q)
  refine W.aast hx.1 hx.2.1 ho (fun q h => by cases h) (fun h => by cases h) k1 k2 rfl hkE ⟨h0, by rw [arrV_size]; exact hlt⟩ g1 (fun q h => by rw [g3] at h; cases h) (by rw [g2]; exact hkC) (by rw [g2]; exact f3) rfl rfl hd fun H1 e1 e2 e4 => k0 H1 _ (hP.upR ha e2 e4 fun _ => hCell.arr (kd := 78) (by omega) hk.1 (by rw [e1, arrV_store]; rfl) fun j => ?_) (hS.put e2 e4 (adr_area ha))
  rw [arw_R (by omega), arw_R (by omega)]
  show (if j = ixN i then Value.ref (adr x.2.2.2 v) else vR x.2.2.2 (hpR h a j)) = vR x.2.2.2 (up2 h.2.2.2.1 a (ixN i) v a j)
  rw [up2_at]
  by_cases e : j = ixN i
  · rw [if_pos e, if_pos e, vR_pos (by omega)]
  · rw [if_neg e, if_neg e]; rfl
theorem w_stO (hx : On x cc own d) {a v : Nat} {i : Int32} {K : Hp → Option ρ} (hd : decode cc pc = .ok (.aastore, 1)) (hq : pc + 1 = q)
    (kk : ∀ h', J x q lv st h' (K h') T) : J x pc lv (vR x.2.2.2 v :: .int i :: vR x.2.2.2 a :: st) h ((stO a i v h).bind K) T := by
  subst hq
  refine J.ite2 fun hk => ?_
  rcases hk.2 with hz | hz
  · exact stO_of hx hd cf12 (by omega) (fun w U H hr => hr.2.2.1.2.2.2.2.2.2.2.2.2.2.2.2.1) hk.1 hz kk
  · exact stO_of hx hd cf13 (by omega) (fun w U H hr => hr.2.2.1.2.2.2.2.2.2.2.2.2.2.2.1) hk.1 hz kk
theorem j_ckC (hx : On x cc own d) {i a c N : Nat} {C : String} {Tt : u_T} {ty : Nat → FieldType} (hd : decode cc pc = .ok (.checkcast i, 3)) (hcl : Cond.classLink own i C ∈ TB) (hF : CF c C Tt N ty) (hc : c + 1 < 50) (hq : pc + 3 = q)
    (kk : J x q lv (vR x.2.2.2 a :: st) h K T) : J x pc lv (vR x.2.2.2 a :: st) h (if a = 0 ∨ (hpS h a).1 = c + 1 then K else none) T := by
  subst hq
  refine J.ckd fun hk => ?_
  by_cases ha : a = 0
  · subst ha
    exact J.step hx (fun hx H locs ls ce sl h0 k0 => lv_castN hx.1 hx.2.1 hd (k0 ls h0)) kk
  · have hk := hk.resolve_left ha
    refine J.rd hx (fun hx H locs ls ce sl hP hS k0 => ?_) kk
    obtain ⟨h100, hb, cell, q1, q2, q3, -⟩ := obj_of hP hF hc hk
    rw [vR_pos ha] at k0 ⊢
    have hcls := (hx.2.2.2.2.2.2.1.1.1 c _ (cls_fst hF)).2
    exact va_castS hx.1 hx.2.1 hx.2.2.2.1 (hx.2.2.2.2.1 _ hcl) hcls ⟨cell, q1, by rw [q3]; rfl, by rw [q2]; exact hcls.1⟩ hd k0
/-! new rows of a length that is computed -/
theorem j_newV (hx : On x cc own d) {kd : Nat} {n : Int32} {K : Nat → Hp → Option ρ} (hr : ¬ n < 0 → n.toNatClampNeg ≤ 100000 → J x pc lv (.int n :: st) h (b2 (newA kd n.toNatClampNeg h) K) T) : J x pc lv (.int n :: st) h (b2 (newV kd n h) K) T := by
  by_cases hc : ¬ n < 0 ∧ n.toNatClampNeg ≤ 100000
  · rw [show newV kd n h = newA kd n.toNatClampNeg h from if_pos hc]; exact hr hc.1 hc.2
  · rw [show newV kd n h = none from if_neg hc]; intro r hr; cases hr
theorem j_newarray53 (hx : On x cc own d) {n : Int32} {K : Nat → Hp → Option ρ} (hd : decode cc pc = .ok (.newarray .byte, 2)) (hac : Cond.arrayClass .byte ∈ TB) (hq : pc + 2 = q)
    (kk : ∀ v, v ≠ 0 → ∀ h', J x q lv (vR x.2.2.2 v :: st) h' (K v h') T) : J x pc lv (.int n :: st) h (b2 (newV 53 n h) K) T :=
  j_newV hx fun h1 h2 => newaT (kd := 53) (t := 3) (ty := .byte) hx hd rfl (fun w j => newI0 (by omega) (by omega) w j) (by omega) (fun w => rfl) (fun U cA => rfl) hac h1 rfl (by show n.toNatClampNeg * 1 ≤ _; omega) hq kk
theorem j_anewarrayV73 (hx : On x cc own d) {i : Nat} {n : Int32} {K : Nat → Hp → Option ρ} (hd : decode cc pc = .ok (.anewarray i, 3)) (hcl : Cond.classLink own i RX13 ∈ TB) (hq : pc + 3 = q)
    (kk : ∀ v, v ≠ 0 → ∀ h', J x q lv (vR x.2.2.2 v :: st) h' (K v h') T) : J x pc lv (.int n :: st) h (b2 (newV 73 n h) K) T :=
  j_newV hx fun h1 h2 => j_anew (c := 13) (t := 2) (C := RX13) hx hd hcl rfl (by omega) (fun U H w hr => hr.2.2.1.2.2.2.2.2.2.2.1) h1 rfl (by omega) hq kk
theorem j_anewarrayV78 (hx : On x cc own d) {i : Nat} {n : Int32} {K : Nat → Hp → Option ρ} (hd : decode cc pc = .ok (.anewarray i, 3)) (hcl : Cond.classLink own i "java/lang/Object" ∈ TB) (hq : pc + 3 = q)
    (kk : ∀ v, v ≠ 0 → ∀ h', J x q lv (vR x.2.2.2 v :: st) h' (K v h') T) : J x pc lv (.int n :: st) h (b2 (newV 78 n h) K) T :=
  j_newV hx fun h1 h2 => j_anew (c := 18) (t := 3) (C := "java/lang/Object") hx hd hcl rfl (by omega) (fun U H w hr => hr.2.2.1.2.2.2.2.2.2.2.2.1) h1 rfl (by omega) hq kk
end DR
