def b2 {α β ρ : Type} (F : Option (α × β)) (K : α → β → Option ρ) : Option ρ := F.bind fun r => K r.1 r.2
def ushrI (a b : Int32) : Int32 := (a.toUInt32 >>> (b.toUInt32 &&& Int32.toUInt32 31)).toInt32
def ushrL (a : Int64) (b : Int32) : Int64 := (a.toUInt64 >>> (b.toInt64.toUInt64 &&& Int64.toUInt64 63)).toInt64
def i2cV (a : Int32) : Int32 := (a.toUInt32 % 65536).toInt32
def mmax (a b : Int32) : Int32 := if a < b then b else a
def mmin (a b : Int32) : Int32 := if b < a then b else a
theorem sum_nil : (([] : List Value).map fun v => v.category).sum = 0 := rfl
theorem sum_I {l : List Value} {n : Nat} {v : Int32} (h : (l.map fun v => v.category).sum = n) : ((Value.int v :: l).map fun v => v.category).sum = n + 1 := by
  rw [List.map_cons, List.sum_cons, h]; exact Nat.add_comm 1 n
theorem sum_J {l : List Value} {n : Nat} {v : Int64} (h : (l.map fun v => v.category).sum = n) : ((Value.long v :: l).map fun v => v.category).sum = n + 2 := by
  rw [List.map_cons, List.sum_cons, h]; exact Nat.add_comm 2 n
theorem sum_R {l : List Value} {n : Nat} {w : Wd} {a : Nat} (h : (l.map fun v => v.category).sum = n) : ((vR w a :: l).map fun v => v.category).sum = n + 1 := by
  rw [List.map_cons, List.sum_cons, h, vR_cat]; exact Nat.add_comm 1 n
theorem sum_le {l : List Value} {n : Nat} (h : (l.map fun v => v.category).sum = n) (hn : n ≤ 8) : (l.map fun v => v.category).sum ≤ 8 := by rw [h]; exact hn
section MR
variable {x : Cx} {cc : ByteArray} {own : String} {d pc q : Nat} {lv lv' : List (Nat × Value)} {st : List Value} {h : Hp} {ρ : Type} {T : ρ → Prop}
theorem j_icmp_neS (hx : On x cc own d) {a b : Int32} {off : Int} {tgt : Nat} {K1 K2 : Option ρ} (hd : decode cc pc = .ok (.if_icmp .ne off, 3)) (ht : (pc : Int) + off = (tgt : Int)) (hq : pc + 3 = q) (k1 : J x tgt lv st h K1 T) (k2 : J x q lv st h K2 T) : J x pc lv (.int b :: .int a :: st) h (if a = b then K2 else K1) T := by
  have e : (if a = b then K2 else K1) = (if ¬ (a = b) then K1 else K2) := by by_cases hz : a = b <;> simp [hz]
  rw [e]
  exact j_icmp_ne hx hd ht Iff.rfl hq k1 k2
theorem j_icmp_geS (hx : On x cc own d) {a b : Int32} {off : Int} {tgt : Nat} {K1 K2 : Option ρ} (hd : decode cc pc = .ok (.if_icmp .ge off, 3)) (ht : (pc : Int) + off = (tgt : Int)) (hq : pc + 3 = q) (k1 : J x tgt lv st h K1 T) (k2 : J x q lv st h K2 T) : J x pc lv (.int b :: .int a :: st) h (if a < b then K2 else K1) T := by
  have e : (if a < b then K2 else K1) = (if ¬ (a < b) then K1 else K2) := by by_cases hz : a < b <;> simp [hz]
  rw [e]
  exact j_icmp_ge hx hd ht Int32.not_lt hq k1 k2
theorem j_icmp_leS (hx : On x cc own d) {a b : Int32} {off : Int} {tgt : Nat} {K1 K2 : Option ρ} (hd : decode cc pc = .ok (.if_icmp .le off, 3)) (ht : (pc : Int) + off = (tgt : Int)) (hq : pc + 3 = q) (k1 : J x tgt lv st h K1 T) (k2 : J x q lv st h K2 T) : J x pc lv (.int b :: .int a :: st) h (if b < a then K2 else K1) T := by
  have e : (if b < a then K2 else K1) = (if ¬ (b < a) then K1 else K2) := by by_cases hz : b < a <;> simp [hz]
  rw [e]
  exact j_icmp_le hx hd ht Int32.not_lt hq k1 k2
theorem j_if_neS (hx : On x cc own d) {a : Int32} {off : Int} {tgt : Nat} {K1 K2 : Option ρ} (hd : decode cc pc = .ok (.ifCond .ne off, 3)) (ht : (pc : Int) + off = (tgt : Int)) (hq : pc + 3 = q) (k1 : J x tgt lv st h K1 T) (k2 : J x q lv st h K2 T) : J x pc lv (.int a :: st) h (if a = 0 then K2 else K1) T := by
  have e : (if a = 0 then K2 else K1) = (if ¬ (a = 0) then K1 else K2) := by by_cases hz : a = 0 <;> simp [hz]
  rw [e]
  exact j_if_ne hx hd ht Iff.rfl hq k1 k2
theorem j_if_geS (hx : On x cc own d) {a : Int32} {off : Int} {tgt : Nat} {K1 K2 : Option ρ} (hd : decode cc pc = .ok (.ifCond .ge off, 3)) (ht : (pc : Int) + off = (tgt : Int)) (hq : pc + 3 = q) (k1 : J x tgt lv st h K1 T) (k2 : J x q lv st h K2 T) : J x pc lv (.int a :: st) h (if a < 0 then K2 else K1) T := by
  have e : (if a < 0 then K2 else K1) = (if ¬ (a < 0) then K1 else K2) := by by_cases hz : a < 0 <;> simp [hz]
  rw [e]
  exact j_if_ge hx hd ht Int32.not_lt hq k1 k2
theorem j_if_leS (hx : On x cc own d) {a : Int32} {off : Int} {tgt : Nat} {K1 K2 : Option ρ} (hd : decode cc pc = .ok (.ifCond .le off, 3)) (ht : (pc : Int) + off = (tgt : Int)) (hq : pc + 3 = q) (k1 : J x tgt lv st h K1 T) (k2 : J x q lv st h K2 T) : J x pc lv (.int a :: st) h (if 0 < a then K2 else K1) T := by
  have e : (if 0 < a then K2 else K1) = (if ¬ (0 < a) then K1 else K2) := by by_cases hz : 0 < a <;> simp [hz]
  rw [e]
  exact j_if_le hx hd ht Int32.not_lt hq k1 k2
/-- lookupswitch -/
def JS (x : Cx) (pc : Int) (lv : List (Nat × Value)) (st : List Value) (h : Hp) {ρ : Type} (T : ρ → Prop) (dflt : Int) (Kd : Option ρ) : List (Int × Int) → List (Int × Option ρ) → Prop
  | p :: ps, k :: ks => p.1 = k.1 ∧ (∃ t : Nat, pc + p.2 = (t : Int) ∧ J x t lv st h k.2 T) ∧ JS x pc lv st h T dflt Kd ps ks
  | [], [] => ∃ t : Nat, pc + dflt = (t : Int) ∧ J x t lv st h Kd T
  | _, _ => False
theorem JS.get {dflt : Int} {Kd : Option ρ} {pc : Int} {v : Int32} : ∀ {ps : List (Int × Int)} {ks : List (Int × Option ρ)}, JS x pc lv st h T dflt Kd ps ks → ∃ t : Nat, pc + Op.lookupswitch.offset ps dflt v.toInt = (t : Int) ∧ J x t lv st h (lsw v ks Kd) T := by
  intro ps
  induction ps with
  | nil =>
    intro ks hj
    cases ks with
    | nil => exact hj
    | cons => exact hj.elim
  | cons p ps ih =>
    intro ks hj
    cases ks with
    | nil => exact hj.elim
    | cons k ks =>
      obtain ⟨p1, p2⟩ := p
      obtain ⟨k1, k2⟩ := k
      obtain ⟨e, ⟨t, ht, hJ⟩, hr⟩ := hj
      have e : p1 = k1 := e
      subst e
      rw [Op.lookupswitch.offset_cons]
      by_cases hv : p1 = v.toInt
      · refine ⟨t, by rw [if_pos hv]; exact ht, ?_⟩
        rw [lsw, if_pos hv.symm]; exact hJ
      · obtain ⟨t2, h1, h2⟩ := ih hr
        refine ⟨t2, by rw [if_neg hv]; exact h1, ?_⟩
        rw [lsw, if_neg (fun z => hv z.symm)]; exact h2
theorem j_lsw (hx : On x cc own d) {dflt : Int} {ps : Array (Int × Int)} {len : Nat} {v : Int32} {ks : List (Int × Option ρ)} {Kd : Option ρ} (hd : decode cc pc = .ok (.lookupswitch dflt ps, len)) (hp : (ps.toList.zip (ps.toList.drop 1)).all (fun (a, next) => a.1 < next.1) = true)
    (k : JS x pc lv st h T dflt Kd ps.toList ks) : J x pc lv (.int v :: st) h (lsw v ks Kd) T := by
  obtain ⟨t, h1, h2⟩ := k.get (v := v)
  exact J.step hx (fun hx H locs ls ce sl h0 k0 => lv_lookup hx.1 hx.2.1 hd hp rfl h1 (k0 ls h0)) h2
/-- a constant truth comes out -/
theorem r_cW (hx : On x cc own d) {h0 : Hp} {u : Int32 × Hp} {v : Int32} (hv : v = 0 ∨ v = 1) (R : Rt x h0 u.2 (some (.int u.1)) (some .boolean)) (hd : decode cc pc = .ok (.ireturn, 1)) : J x pc lv [.int v] h (some (v, h)) (fun r => r = u) := by
  have e : some (v, h) = (z01 v).bind fun v => some (v, h) := by rw [show z01 v = some v from if_pos hv]; rfl
  rw [e]; exact r_zW hx R hd
theorem r_cR (hx : On x cc own d) {u v : Int32} (hv : v = 0 ∨ v = 1) (R : Rt x h h (some (.int u)) (some .boolean)) (hd : decode cc pc = .ok (.ireturn, 1)) : J x pc lv [.int v] h (some v) (fun r => r = u) := by
  have e : some v = z01 v := by rw [show z01 v = some v from if_pos hv]
  rw [e]; exact r_zR hx R hd
theorem w_stR (hx : On x cc own d) {t c a v N : Nat} {C : String} {Tt : u_T} {ty : Nat → FieldType} {i : Int32} {K : Hp → Option ρ} (hd : decode cc pc = .ok (.aastore, 1)) (hq : pc + 1 = q) (hc : c < 20) (ht : refs0[t]? = some (c, C)) (hF : CF c C Tt N ty)
    (kk : ∀ h', J x q lv st h' (K h') T) : J x pc lv (vR x.2.2.2 v :: .int i :: vR x.2.2.2 a :: st) h ((stR c a i v h).bind K) T := by
  subst hq
  refine J.ite2 fun hk => J.wr (h' := upR h a (ixN i) v) hx rfl rfl (fun hx H locs ls ce sl hP hS k0 => ?_) (kk _)
  obtain ⟨hk, hz⟩ := hk
  have hlt := ix_lt hk.2
  obtain ⟨ha, hb, ho⟩ := arr_of hP (by omega) (by omega) hk.1
  obtain ⟨hva, hvb, cellV, g1, g2, g3, -⟩ := obj_of hP hF (by omega) hz
  rw [vR_pos (show v ≠ 0 by omega), vR_pos (show a ≠ 0 by omega)]
  have e3 : (tys0 x.2.2.2)[5 + t]? = some (wA x.2.2.2 (60 + c), .object C) := by
    unfold tys0
    rw [List.getElem?_append_right (by simp), show 5 + t - [(wA x.2.2.2 50, FieldType.int), (wA x.2.2.2 51, .long), (wA x.2.2.2 52, .boolean), (wA x.2.2.2 53, .byte), (wA x.2.2.2 79, .array .boolean)].length = t by simp, List.getElem?_map, ht]
    rfl
  have hK := hx.2.2.2.2.2.2.1.1
  have hcls := (hK.1 c _ (cls_fst hF)).2
  obtain ⟨kA, comp, k1, k2, k3, -⟩ := (hK.2 _ _ e3).2
  have hcomp : comp = (wD x.2.2.2).1 c := Option.some.inj (k3.symm.trans hcls.1)
  subst hcomp
  obtain ⟨kC, hkC, -⟩ := id hcls.2
  have h0 : ¬ i < 0 := fun q => inB_vp hk.2 (Or.inl q)
  refine W.aast hx.1 hx.2.1 ho (fun q h => by cases h) (fun h => by cases h) k1 k2 rfl hkC ⟨h0, by rw [arrV_size]; exact hlt⟩ g1 (fun q h => by rw [g3] at h; cases h) (by rw [g2]; exact hkC) (by rw [g2]; exact va_assign hcls) rfl rfl hd fun H1 e1 e2 e4 => k0 H1 _ (hP.upR ha e2 e4 fun _ => hCell.arr (kd := 60 + c) (by omega) hk.1 (by rw [e1, arrV_store]; rfl) fun j => ?_) (hS.put e2 e4 (adr_area ha))
  rw [arw_R (by omega), arw_R (by omega)]
  show (if j = ixN i then Value.ref (adr x.2.2.2 v) else vR x.2.2.2 (hpR h a j)) = vR x.2.2.2 (up2 h.2.2.2.1 a (ixN i) v a j)
  rw [up2_at]
  by_cases e : j = ixN i
  · rw [if_pos e, if_pos e, vR_pos (by omega)]
  · rw [if_neg e, if_neg e]; rfl
theorem w_cSIW {mi : Mi} {F : Option (Int32 × Hp)} {K : Int32 → Hp → Option ρ} {i d' n : Nat} {As : List Value} (hx : On x cc own d) (hd : decode cc pc = .ok (.invokestatic i, 3)) (cw : cIn mi own i d d' n) (cs : Cond.static mi.1 ∈ TB) (hn : As.length = n)
    (hM : ∀ u, F = some u → M1 x.1.2.1 x.2.2.2 mi d' As h (u.2) (some (.int u.1))) (hst : (st.map fun v => v.category).sum ≤ 8) (hq : pc + 3 = q) (kk : ∀ v h', J x q lv (.int v :: st) h' (K v h') T) : J x pc lv (As.reverse ++ st) h (b2 F K) T :=
  j_callS (σ := (Int32 × Hp)) (hp := fun u => u.2) (rs := fun u => some (.int u.1)) hx hd ⟨cw, cs⟩ hn hM hst hq (fun u => kk u.1 u.2)
theorem w_cVIW {mi : Mi} {F : Option (Int32 × Hp)} {K : Int32 → Hp → Option ρ} {i d' n : Nat} {As : List Value} {a c N : Nat} {C : String} {Tt : u_T} {ty : Nat → FieldType} (hx : On x cc own d) (hd : decode cc pc = .ok (.invokevirtual i, 3)) (hF : CF c C Tt N ty) (hc : c + 1 < 50) (hC : mi.1.cls = C) (cw : cIn mi own i d d' n) (cs : Cond.instanceMethod mi.1 ∈ TB ∧ Cond.selects C mi.1 mi.1 ∈ TB) (hn : As.length = n)
    (hM : ∀ u, F = some u → M1 x.1.2.1 x.2.2.2 mi d' (vR x.2.2.2 a :: As) h (u.2) (some (.int u.1))) (hk : F ≠ none → (hpS h a).1 = c + 1) (hst : (st.map fun v => v.category).sum ≤ 8) (hq : pc + 3 = q) (kk : ∀ v h', J x q lv (.int v :: st) h' (K v h') T) : J x pc lv (As.reverse ++ vR x.2.2.2 a :: st) h (b2 F K) T :=
  j_callV (σ := (Int32 × Hp)) (hp := fun u => u.2) (rs := fun u => some (.int u.1)) hx hd hF hc hC ⟨cw, cs⟩ hn hM hk hst hq (fun u => kk u.1 u.2)
theorem w_cSIR {mi : Mi} {F : Option Int32} {K : Int32 → Option ρ} {i d' n : Nat} {As : List Value} (hx : On x cc own d) (hd : decode cc pc = .ok (.invokestatic i, 3)) (cw : cIn mi own i d d' n) (cs : Cond.static mi.1 ∈ TB) (hn : As.length = n)
    (hM : ∀ u, F = some u → M1 x.1.2.1 x.2.2.2 mi d' As h (h) (some (.int u))) (hst : (st.map fun v => v.category).sum ≤ 8) (hq : pc + 3 = q) (kk : ∀ v, J x q lv (.int v :: st) h (K v) T) : J x pc lv (As.reverse ++ st) h (F.bind K) T :=
  j_callS (σ := Int32) (hp := fun u => h) (rs := fun u => some (.int u)) hx hd ⟨cw, cs⟩ hn hM hst hq (fun u => kk u)
theorem w_cVIR {mi : Mi} {F : Option Int32} {K : Int32 → Option ρ} {i d' n : Nat} {As : List Value} {a c N : Nat} {C : String} {Tt : u_T} {ty : Nat → FieldType} (hx : On x cc own d) (hd : decode cc pc = .ok (.invokevirtual i, 3)) (hF : CF c C Tt N ty) (hc : c + 1 < 50) (hC : mi.1.cls = C) (cw : cIn mi own i d d' n) (cs : Cond.instanceMethod mi.1 ∈ TB ∧ Cond.selects C mi.1 mi.1 ∈ TB) (hn : As.length = n)
    (hM : ∀ u, F = some u → M1 x.1.2.1 x.2.2.2 mi d' (vR x.2.2.2 a :: As) h (h) (some (.int u))) (hk : F ≠ none → (hpS h a).1 = c + 1) (hst : (st.map fun v => v.category).sum ≤ 8) (hq : pc + 3 = q) (kk : ∀ v, J x q lv (.int v :: st) h (K v) T) : J x pc lv (As.reverse ++ vR x.2.2.2 a :: st) h (F.bind K) T :=
  j_callV (σ := Int32) (hp := fun u => h) (rs := fun u => some (.int u)) hx hd hF hc hC ⟨cw, cs⟩ hn hM hk hst hq (fun u => kk u)
theorem w_cSJW {mi : Mi} {F : Option (Int64 × Hp)} {K : Int64 → Hp → Option ρ} {i d' n : Nat} {As : List Value} (hx : On x cc own d) (hd : decode cc pc = .ok (.invokestatic i, 3)) (cw : cIn mi own i d d' n) (cs : Cond.static mi.1 ∈ TB) (hn : As.length = n)
    (hM : ∀ u, F = some u → M1 x.1.2.1 x.2.2.2 mi d' As h (u.2) (some (.long u.1))) (hst : (st.map fun v => v.category).sum ≤ 8) (hq : pc + 3 = q) (kk : ∀ v h', J x q lv (.long v :: st) h' (K v h') T) : J x pc lv (As.reverse ++ st) h (b2 F K) T :=
  j_callS (σ := (Int64 × Hp)) (hp := fun u => u.2) (rs := fun u => some (.long u.1)) hx hd ⟨cw, cs⟩ hn hM hst hq (fun u => kk u.1 u.2)
theorem w_cVJW {mi : Mi} {F : Option (Int64 × Hp)} {K : Int64 → Hp → Option ρ} {i d' n : Nat} {As : List Value} {a c N : Nat} {C : String} {Tt : u_T} {ty : Nat → FieldType} (hx : On x cc own d) (hd : decode cc pc = .ok (.invokevirtual i, 3)) (hF : CF c C Tt N ty) (hc : c + 1 < 50) (hC : mi.1.cls = C) (cw : cIn mi own i d d' n) (cs : Cond.instanceMethod mi.1 ∈ TB ∧ Cond.selects C mi.1 mi.1 ∈ TB) (hn : As.length = n)
    (hM : ∀ u, F = some u → M1 x.1.2.1 x.2.2.2 mi d' (vR x.2.2.2 a :: As) h (u.2) (some (.long u.1))) (hk : F ≠ none → (hpS h a).1 = c + 1) (hst : (st.map fun v => v.category).sum ≤ 8) (hq : pc + 3 = q) (kk : ∀ v h', J x q lv (.long v :: st) h' (K v h') T) : J x pc lv (As.reverse ++ vR x.2.2.2 a :: st) h (b2 F K) T :=
  j_callV (σ := (Int64 × Hp)) (hp := fun u => u.2) (rs := fun u => some (.long u.1)) hx hd hF hc hC ⟨cw, cs⟩ hn hM hk hst hq (fun u => kk u.1 u.2)
theorem w_cSJR {mi : Mi} {F : Option Int64} {K : Int64 → Option ρ} {i d' n : Nat} {As : List Value} (hx : On x cc own d) (hd : decode cc pc = .ok (.invokestatic i, 3)) (cw : cIn mi own i d d' n) (cs : Cond.static mi.1 ∈ TB) (hn : As.length = n)
    (hM : ∀ u, F = some u → M1 x.1.2.1 x.2.2.2 mi d' As h (h) (some (.long u))) (hst : (st.map fun v => v.category).sum ≤ 8) (hq : pc + 3 = q) (kk : ∀ v, J x q lv (.long v :: st) h (K v) T) : J x pc lv (As.reverse ++ st) h (F.bind K) T :=
  j_callS (σ := Int64) (hp := fun u => h) (rs := fun u => some (.long u)) hx hd ⟨cw, cs⟩ hn hM hst hq (fun u => kk u)
theorem w_cVJR {mi : Mi} {F : Option Int64} {K : Int64 → Option ρ} {i d' n : Nat} {As : List Value} {a c N : Nat} {C : String} {Tt : u_T} {ty : Nat → FieldType} (hx : On x cc own d) (hd : decode cc pc = .ok (.invokevirtual i, 3)) (hF : CF c C Tt N ty) (hc : c + 1 < 50) (hC : mi.1.cls = C) (cw : cIn mi own i d d' n) (cs : Cond.instanceMethod mi.1 ∈ TB ∧ Cond.selects C mi.1 mi.1 ∈ TB) (hn : As.length = n)
    (hM : ∀ u, F = some u → M1 x.1.2.1 x.2.2.2 mi d' (vR x.2.2.2 a :: As) h (h) (some (.long u))) (hk : F ≠ none → (hpS h a).1 = c + 1) (hst : (st.map fun v => v.category).sum ≤ 8) (hq : pc + 3 = q) (kk : ∀ v, J x q lv (.long v :: st) h (K v) T) : J x pc lv (As.reverse ++ vR x.2.2.2 a :: st) h (F.bind K) T :=
  j_callV (σ := Int64) (hp := fun u => h) (rs := fun u => some (.long u)) hx hd hF hc hC ⟨cw, cs⟩ hn hM hk hst hq (fun u => kk u)
theorem w_cSRW {mi : Mi} {F : Option (Nat × Hp)} {K : Nat → Hp → Option ρ} {i d' n : Nat} {As : List Value} (hx : On x cc own d) (hd : decode cc pc = .ok (.invokestatic i, 3)) (cw : cIn mi own i d d' n) (cs : Cond.static mi.1 ∈ TB) (hn : As.length = n)
    (hM : ∀ u, F = some u → M1 x.1.2.1 x.2.2.2 mi d' As h (u.2) (some (vR x.2.2.2 u.1))) (hst : (st.map fun v => v.category).sum ≤ 8) (hq : pc + 3 = q) (kk : ∀ v h', J x q lv (vR x.2.2.2 v :: st) h' (K v h') T) : J x pc lv (As.reverse ++ st) h (b2 F K) T :=
  j_callS (σ := (Nat × Hp)) (hp := fun u => u.2) (rs := fun u => some (vR x.2.2.2 u.1)) hx hd ⟨cw, cs⟩ hn hM hst hq (fun u => kk u.1 u.2)
theorem w_cVRW {mi : Mi} {F : Option (Nat × Hp)} {K : Nat → Hp → Option ρ} {i d' n : Nat} {As : List Value} {a c N : Nat} {C : String} {Tt : u_T} {ty : Nat → FieldType} (hx : On x cc own d) (hd : decode cc pc = .ok (.invokevirtual i, 3)) (hF : CF c C Tt N ty) (hc : c + 1 < 50) (hC : mi.1.cls = C) (cw : cIn mi own i d d' n) (cs : Cond.instanceMethod mi.1 ∈ TB ∧ Cond.selects C mi.1 mi.1 ∈ TB) (hn : As.length = n)
    (hM : ∀ u, F = some u → M1 x.1.2.1 x.2.2.2 mi d' (vR x.2.2.2 a :: As) h (u.2) (some (vR x.2.2.2 u.1))) (hk : F ≠ none → (hpS h a).1 = c + 1) (hst : (st.map fun v => v.category).sum ≤ 8) (hq : pc + 3 = q) (kk : ∀ v h', J x q lv (vR x.2.2.2 v :: st) h' (K v h') T) : J x pc lv (As.reverse ++ vR x.2.2.2 a :: st) h (b2 F K) T :=
  j_callV (σ := (Nat × Hp)) (hp := fun u => u.2) (rs := fun u => some (vR x.2.2.2 u.1)) hx hd hF hc hC ⟨cw, cs⟩ hn hM hk hst hq (fun u => kk u.1 u.2)
theorem w_cSRR {mi : Mi} {F : Option Nat} {K : Nat → Option ρ} {i d' n : Nat} {As : List Value} (hx : On x cc own d) (hd : decode cc pc = .ok (.invokestatic i, 3)) (cw : cIn mi own i d d' n) (cs : Cond.static mi.1 ∈ TB) (hn : As.length = n)
    (hM : ∀ u, F = some u → M1 x.1.2.1 x.2.2.2 mi d' As h (h) (some (vR x.2.2.2 u))) (hst : (st.map fun v => v.category).sum ≤ 8) (hq : pc + 3 = q) (kk : ∀ v, J x q lv (vR x.2.2.2 v :: st) h (K v) T) : J x pc lv (As.reverse ++ st) h (F.bind K) T :=
  j_callS (σ := Nat) (hp := fun u => h) (rs := fun u => some (vR x.2.2.2 u)) hx hd ⟨cw, cs⟩ hn hM hst hq (fun u => kk u)
theorem w_cVRR {mi : Mi} {F : Option Nat} {K : Nat → Option ρ} {i d' n : Nat} {As : List Value} {a c N : Nat} {C : String} {Tt : u_T} {ty : Nat → FieldType} (hx : On x cc own d) (hd : decode cc pc = .ok (.invokevirtual i, 3)) (hF : CF c C Tt N ty) (hc : c + 1 < 50) (hC : mi.1.cls = C) (cw : cIn mi own i d d' n) (cs : Cond.instanceMethod mi.1 ∈ TB ∧ Cond.selects C mi.1 mi.1 ∈ TB) (hn : As.length = n)
    (hM : ∀ u, F = some u → M1 x.1.2.1 x.2.2.2 mi d' (vR x.2.2.2 a :: As) h (h) (some (vR x.2.2.2 u))) (hk : F ≠ none → (hpS h a).1 = c + 1) (hst : (st.map fun v => v.category).sum ≤ 8) (hq : pc + 3 = q) (kk : ∀ v, J x q lv (vR x.2.2.2 v :: st) h (K v) T) : J x pc lv (As.reverse ++ vR x.2.2.2 a :: st) h (F.bind K) T :=
  j_callV (σ := Nat) (hp := fun u => h) (rs := fun u => some (vR x.2.2.2 u)) hx hd hF hc hC ⟨cw, cs⟩ hn hM hk hst hq (fun u => kk u)
theorem w_cSVW {mi : Mi} {F : Option Hp} {K : Hp → Option ρ} {i d' n : Nat} {As : List Value} (hx : On x cc own d) (hd : decode cc pc = .ok (.invokestatic i, 3)) (cw : cIn mi own i d d' n) (cs : Cond.static mi.1 ∈ TB) (hn : As.length = n)
    (hM : ∀ u, F = some u → M1 x.1.2.1 x.2.2.2 mi d' As h (u) (none)) (hst : (st.map fun v => v.category).sum ≤ 8) (hq : pc + 3 = q) (kk : ∀ h', J x q lv st h' (K h') T) : J x pc lv (As.reverse ++ st) h (F.bind K) T :=
  j_callS (σ := Hp) (hp := fun u => u) (rs := fun u => none) hx hd ⟨cw, cs⟩ hn hM hst hq (fun u => kk u)
theorem w_cVVW {mi : Mi} {F : Option Hp} {K : Hp → Option ρ} {i d' n : Nat} {As : List Value} {a c N : Nat} {C : String} {Tt : u_T} {ty : Nat → FieldType} (hx : On x cc own d) (hd : decode cc pc = .ok (.invokevirtual i, 3)) (hF : CF c C Tt N ty) (hc : c + 1 < 50) (hC : mi.1.cls = C) (cw : cIn mi own i d d' n) (cs : Cond.instanceMethod mi.1 ∈ TB ∧ Cond.selects C mi.1 mi.1 ∈ TB) (hn : As.length = n)
    (hM : ∀ u, F = some u → M1 x.1.2.1 x.2.2.2 mi d' (vR x.2.2.2 a :: As) h (u) (none)) (hk : F ≠ none → (hpS h a).1 = c + 1) (hst : (st.map fun v => v.category).sum ≤ 8) (hq : pc + 3 = q) (kk : ∀ h', J x q lv st h' (K h') T) : J x pc lv (As.reverse ++ vR x.2.2.2 a :: st) h (F.bind K) T :=
  j_callV (σ := Hp) (hp := fun u => u) (rs := fun u => none) hx hd hF hc hC ⟨cw, cs⟩ hn hM hk hst hq (fun u => kk u)
theorem w_cIVW {mi : Mi} {F : Option Hp} {K : Hp → Option ρ} {i d' n : Nat} {As : List Value} {a : Nat} (hx : On x cc own d) (hd : decode cc pc = .ok (.invokespecial i, 3)) (cw : cIn mi own i d d' n) (cs : mi.1.name = "<init>" ∧ Cond.instanceMethod mi.1 ∈ TB) (hret : mi.2.2.2 = none) (hn : As.length = n)
    (hM : ∀ u, F = some u → M1 x.1.2.1 x.2.2.2 mi d' (vR x.2.2.2 a :: As) h (u) (none)) (ha : a ≠ 0) (hst : (st.map fun v => v.category).sum ≤ 8) (hq : pc + 3 = q) (kk : ∀ h', J x q lv st h' (K h') T) : J x pc lv (As.reverse ++ vR x.2.2.2 a :: st) h (F.bind K) T :=
  j_callI (σ := Hp) (hp := fun u => u) hx hd ⟨cw, cs⟩ hret hn hM ha hst hq (fun u => kk u)
theorem w_cSVR {mi : Mi} {F : Option Unit} {K : Unit → Option ρ} {i d' n : Nat} {As : List Value} (hx : On x cc own d) (hd : decode cc pc = .ok (.invokestatic i, 3)) (cw : cIn mi own i d d' n) (cs : Cond.static mi.1 ∈ TB) (hn : As.length = n)
    (hM : ∀ u, F = some u → M1 x.1.2.1 x.2.2.2 mi d' As h (h) (none)) (hst : (st.map fun v => v.category).sum ≤ 8) (hq : pc + 3 = q) (kk : ∀ u, J x q lv st h (K u) T) : J x pc lv (As.reverse ++ st) h (F.bind K) T :=
  j_callS (σ := Unit) (hp := fun u => h) (rs := fun u => none) hx hd ⟨cw, cs⟩ hn hM hst hq (fun u => kk u)
theorem w_cVVR {mi : Mi} {F : Option Unit} {K : Unit → Option ρ} {i d' n : Nat} {As : List Value} {a c N : Nat} {C : String} {Tt : u_T} {ty : Nat → FieldType} (hx : On x cc own d) (hd : decode cc pc = .ok (.invokevirtual i, 3)) (hF : CF c C Tt N ty) (hc : c + 1 < 50) (hC : mi.1.cls = C) (cw : cIn mi own i d d' n) (cs : Cond.instanceMethod mi.1 ∈ TB ∧ Cond.selects C mi.1 mi.1 ∈ TB) (hn : As.length = n)
    (hM : ∀ u, F = some u → M1 x.1.2.1 x.2.2.2 mi d' (vR x.2.2.2 a :: As) h (h) (none)) (hk : F ≠ none → (hpS h a).1 = c + 1) (hst : (st.map fun v => v.category).sum ≤ 8) (hq : pc + 3 = q) (kk : ∀ u, J x q lv st h (K u) T) : J x pc lv (As.reverse ++ vR x.2.2.2 a :: st) h (F.bind K) T :=
  j_callV (σ := Unit) (hp := fun u => h) (rs := fun u => none) hx hd hF hc hC ⟨cw, cs⟩ hn hM hk hst hq (fun u => kk u)
theorem w_cIVR {mi : Mi} {F : Option Unit} {K : Unit → Option ρ} {i d' n : Nat} {As : List Value} {a : Nat} (hx : On x cc own d) (hd : decode cc pc = .ok (.invokespecial i, 3)) (cw : cIn mi own i d d' n) (cs : mi.1.name = "<init>" ∧ Cond.instanceMethod mi.1 ∈ TB) (hret : mi.2.2.2 = none) (hn : As.length = n)
    (hM : ∀ u, F = some u → M1 x.1.2.1 x.2.2.2 mi d' (vR x.2.2.2 a :: As) h (h) (none)) (ha : a ≠ 0) (hst : (st.map fun v => v.category).sum ≤ 8) (hq : pc + 3 = q) (kk : ∀ u, J x q lv st h (K u) T) : J x pc lv (As.reverse ++ vR x.2.2.2 a :: st) h (F.bind K) T :=
  j_callI (σ := Unit) (hp := fun u => h) hx hd ⟨cw, cs⟩ hret hn hM ha hst hq (fun u => kk u)
/-- Math.max of ints -/
theorem w_mmax (hx : On x cc own d) {i : Nat} {a b : Int32} (hd : decode cc pc = .ok (.invokestatic i, 3)) (hl : Cond.methodLink own i Lib.Math.max.name ∈ TB) (hs : Cond.static Lib.Math.max.name ∈ TB) (hi : Cond.initialized "java/lang/Math" ∈ TB) (hc : Cond.code Lib.Math.max.name Lib.Math.max.code 2 (some .int) ∈ TB) (h1 : 1 ≤ d) (hst : (st.map fun v => v.category).sum ≤ 8) (hq : pc + 3 = q)
    {K : Option ρ} (kk : J x q lv (.int (mmax a b) :: st) h K T) : J x pc lv (.int b :: .int a :: st) h K T := by
  subst hq
  intro r hr ht
  obtain ⟨a1, a2⟩ := kk r hr ht
  obtain ⟨rfl, rfl, rfl⟩ := hx
  refine ⟨a1, fun hok H locs ls hl2 hP hS hh => ?_⟩
  obtain ⟨r1, r2, r3, r4⟩ := hok.2.2.2.2.2.2.2.2.1
  have l1 := hh.1
  have l2 := hh.2
  have l3 := a1.1
  have l4 := a1.2
  exact va_mmax hok.1 hok.2.1 (hok.2.2.1.trans hl2.1.symm) hok.2.2.2.1 (hok.2.2.2.2.1 _ hl) (hok.2.2.2.2.1 _ hs) (hok.2.2.2.2.1 _ hi) (hok.2.2.2.2.1 _ hc) (by omega) (by omega) (by omega) (by omega) hd (a2 hok H locs ls hl2 hP hS hh)
/-- Math.min of ints -/
theorem w_mmin (hx : On x cc own d) {i : Nat} {a b : Int32} (hd : decode cc pc = .ok (.invokestatic i, 3)) (hl : Cond.methodLink own i Lib.Math.min.name ∈ TB) (hs : Cond.static Lib.Math.min.name ∈ TB) (hi : Cond.initialized "java/lang/Math" ∈ TB) (hc : Cond.code Lib.Math.min.name Lib.Math.min.code 2 (some .int) ∈ TB) (h1 : 1 ≤ d) (hst : (st.map fun v => v.category).sum ≤ 8) (hq : pc + 3 = q)
    {K : Option ρ} (kk : J x q lv (.int (mmin a b) :: st) h K T) : J x pc lv (.int b :: .int a :: st) h K T := by
  subst hq
  intro r hr ht
  obtain ⟨a1, a2⟩ := kk r hr ht
  obtain ⟨rfl, rfl, rfl⟩ := hx
  refine ⟨a1, fun hok H locs ls hl2 hP hS hh => ?_⟩
  obtain ⟨r1, r2, r3, r4⟩ := hok.2.2.2.2.2.2.2.2.1
  have l1 := hh.1
  have l2 := hh.2
  have l3 := a1.1
  have l4 := a1.2
  exact va_mmin hok.1 hok.2.1 (hok.2.2.1.trans hl2.1.symm) hok.2.2.2.1 (hok.2.2.2.2.1 _ hl) (hok.2.2.2.2.1 _ hs) (hok.2.2.2.2.1 _ hi) (hok.2.2.2.2.1 _ hc) (by omega) (by omega) (by omega) (by omega) hd (a2 hok H locs ls hl2 hP hS hh)
end MR
