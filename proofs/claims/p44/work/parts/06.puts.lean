section PR
variable {x : Cx} {cc : ByteArray} {own : String} {d pc q : Nat} {lv lv' : List (Nat × Value)} {st : List Value} {h : Hp} {ρ : Type} {T : ρ → Prop}
theorem up2_at {α : Type} {f : Nat → Nat → α} {a k : Nat} {v : α} (j : Nat) : up2 f a k v a j = if j = k then v else f a j := by
  unfold up2; by_cases e : j = k <;> simp [e]
theorem slv_upI {w : Wd} {ty : Nat → FieldType} {a k : Nat} {v : Int32} (hty : fKd (ty k) = 0) : ∀ j, updV (slv w h ty a) k (.int v) j = slv w (upI h a k v) ty a j := by
  intro j
  show (if j = k then Value.int v else slv w h ty a j) = _
  by_cases e : j = k
  · subst e
    rw [if_pos rfl]
    unfold slv
    rw [hty]
    show _ = Value.int (up2 h.2.1 a j v a j)
    rw [up2_at, if_pos rfl]
  · rw [if_neg e]
    unfold slv
    have e1 : hpI (upI h a k v) a j = hpI h a j := by show up2 h.2.1 a k v a j = _; rw [up2_at, if_neg e]; rfl
    rw [e1]; rfl
theorem slv_upL {w : Wd} {ty : Nat → FieldType} {a k : Nat} {v : Int64} (hty : fKd (ty k) = 1) : ∀ j, updV (slv w h ty a) k (.long v) j = slv w (upL h a k v) ty a j := by
  intro j
  show (if j = k then Value.long v else slv w h ty a j) = _
  by_cases e : j = k
  · subst e
    rw [if_pos rfl]
    unfold slv
    rw [hty]
    show _ = Value.long (up2 h.2.2.1 a j v a j)
    rw [up2_at, if_pos rfl]
  · rw [if_neg e]
    unfold slv
    have e1 : hpL (upL h a k v) a j = hpL h a j := by show up2 h.2.2.1 a k v a j = _; rw [up2_at, if_neg e]; rfl
    rw [e1]; rfl
theorem slv_upR {w : Wd} {ty : Nat → FieldType} {a k : Nat} {v : Nat} (hty : fKd (ty k) = 2) : ∀ j, updV (slv w h ty a) k (vR w v) j = slv w (upR h a k v) ty a j := by
  intro j
  show (if j = k then vR w v else slv w h ty a j) = _
  by_cases e : j = k
  · subst e
    rw [if_pos rfl]
    unfold slv
    rw [hty]
    show _ = vR w (up2 h.2.2.2.1 a j v a j)
    rw [up2_at, if_pos rfl]
  · rw [if_neg e]
    unfold slv
    have e1 : hpR (upR h a k v) a j = hpR h a j := by show up2 h.2.2.2.1 a k v a j = _; rw [up2_at, if_neg e]; rfl
    rw [e1]; rfl
theorem hCell.obj {w : Wd} {h' : Hp} {H1 : Heap} {a c N : Nat} {C : String} {Tt : u_T} {ty : Nat → FieldType} {V : Nat → Value} (hF : CF c C Tt N ty) (hc : c + 1 < 50) (hk : (hpS h' a).1 = c + 1)
    (ho : t_OB (adr w a) ((wD w).1 c) N ((wD w).2 c) H1 V) (hv : ∀ j, V j = slv w h' ty a j) : hCell w h' H1 a := by
  refine ⟨fun _ _ => ?_, fun z => by omega⟩
  rw [hk]
  exact ⟨_, hF.1, ho.to fun k _ => hv k⟩
theorem J.ite2 {c : Prop} [Decidable c] {h' : Hp} {K : Hp → Option ρ} (k : c → J x pc lv st h (K h') T) : J x pc lv st h ((if c then some h' else none).bind K) T := by
  by_cases hc : c
  · rw [if_pos hc]; exact k hc
  · rw [if_neg hc]; intro r hr; cases hr
theorem j_sI (hx : On x cc own d) {c k i a N : Nat} {v : Int32} {C : String} {Tt : u_T} {ty : Nat → FieldType} {K : Hp → Option ρ} (hd : decode cc pc = .ok (.putfield i, 3)) (hF : CF c C Tt N ty) (hc : c + 1 < 50) (hkN : k < N)
    (hw : LKc own i Tt k) (hT1 : True)
    (hfin : (Tt k).2.2.2 = false ∨ (x.2.2.1.1.2.2.2.2.2 = "<init>" ∧ (Tt k).1 = own ∧ (Tt k).2.2.2 = true ∧ Cond.fieldLink own i (Tt k).1 (Tt k).2.1 (Tt k).2.2.1 ∈ TB)) (hty : ty k = .int) (hq : pc + 3 = q)
    (kk : J x q lv st (upI h a k v) (K (upI h a k v)) T) : J x pc lv (.int v :: vR x.2.2.2 a :: st) h ((sI c k a v h).bind K) T := by
  subst hq
  refine J.ite2 fun hk => wrF (h' := upI h a k v) hx hF hc hkN hd hw hT1 hfin hk (by rw [hty]; exact vp_nar_int v) (by rw [hty]; rfl) rfl rfl (fun H H1 hP ha z o hO => ?_) kk
  exact hP.upI ha z o fun _ => hCell.obj hF hc hk hO (slv_upI (by rw [hty]; rfl))
theorem nar_z {v : Int32} (h : v = 0 ∨ v = 1) : narrow .boolean (.int v) = .int v := by rcases h with rfl | rfl <;> rfl
theorem fit_z {v : Int32} (h : v = 0 ∨ v = 1) : fits .boolean (.int v) = true := by rcases h with rfl | rfl <;> rfl
theorem j_sZ (hx : On x cc own d) {c k i a N : Nat} {v : Int32} {C : String} {Tt : u_T} {ty : Nat → FieldType} {K : Hp → Option ρ} (hd : decode cc pc = .ok (.putfield i, 3)) (hF : CF c C Tt N ty) (hc : c + 1 < 50) (hkN : k < N)
    (hw : LKc own i Tt k) (hT1 : True)
    (hfin : (Tt k).2.2.2 = false ∨ (x.2.2.1.1.2.2.2.2.2 = "<init>" ∧ (Tt k).1 = own ∧ (Tt k).2.2.2 = true ∧ Cond.fieldLink own i (Tt k).1 (Tt k).2.1 (Tt k).2.2.1 ∈ TB)) (hty : ty k = .boolean) (hq : pc + 3 = q)
    (kk : J x q lv st (upI h a k v) (K (upI h a k v)) T) : J x pc lv (.int v :: vR x.2.2.2 a :: st) h ((sZ c k a v h).bind K) T := by
  subst hq
  refine J.ite2 fun hk => wrF (h' := upI h a k v) hx hF hc hkN hd hw hT1 hfin hk.1 (by rw [hty]; exact nar_z hk.2) (by rw [hty]; exact fit_z hk.2) rfl rfl (fun H H1 hP ha z o hO => ?_) kk
  exact hP.upI ha z o fun _ => hCell.obj hF hc hk.1 hO (slv_upI (by rw [hty]; rfl))
theorem j_sL (hx : On x cc own d) {c k i a N : Nat} {v : Int64} {C : String} {Tt : u_T} {ty : Nat → FieldType} {K : Hp → Option ρ} (hd : decode cc pc = .ok (.putfield i, 3)) (hF : CF c C Tt N ty) (hc : c + 1 < 50) (hkN : k < N)
    (hw : LKc own i Tt k) (hT1 : True)
    (hfin : (Tt k).2.2.2 = false ∨ (x.2.2.1.1.2.2.2.2.2 = "<init>" ∧ (Tt k).1 = own ∧ (Tt k).2.2.2 = true ∧ Cond.fieldLink own i (Tt k).1 (Tt k).2.1 (Tt k).2.2.1 ∈ TB)) (hty : ty k = .long) (hq : pc + 3 = q)
    (kk : J x q lv st (upL h a k v) (K (upL h a k v)) T) : J x pc lv (.long v :: vR x.2.2.2 a :: st) h ((sL c k a v h).bind K) T := by
  subst hq
  refine J.ite2 fun hk => wrF (h' := upL h a k v) hx hF hc hkN hd hw hT1 hfin hk (by rw [hty]; rfl) (by rw [hty]; rfl) rfl rfl (fun H H1 hP ha z o hO => ?_) kk
  exact hP.upL ha z o fun _ => hCell.obj hF hc hk hO (slv_upL (by rw [hty]; rfl))
theorem nar_r {t : FieldType} {w : Wd} {a : Nat} (h : fKd t = 2) : narrow t (vR w a) = vR w a := by
  unfold vR
  cases t <;> first | (exact absurd h (by decide)) | (split <;> rfl)
theorem fit_r {t : FieldType} {w : Wd} {a : Nat} (h : fKd t = 2) : fits t (vR w a) = true := by
  unfold vR
  cases t <;> first | (exact absurd h (by decide)) | (split <;> rfl)
theorem j_sR (hx : On x cc own d) {c k i a v N : Nat} {C : String} {Tt : u_T} {ty : Nat → FieldType} {K : Hp → Option ρ} (hd : decode cc pc = .ok (.putfield i, 3)) (hF : CF c C Tt N ty) (hc : c + 1 < 50) (hkN : k < N)
    (hw : LKc own i Tt k) (hT1 : True)
    (hfin : (Tt k).2.2.2 = false ∨ (x.2.2.1.1.2.2.2.2.2 = "<init>" ∧ (Tt k).1 = own ∧ (Tt k).2.2.2 = true ∧ Cond.fieldLink own i (Tt k).1 (Tt k).2.1 (Tt k).2.2.1 ∈ TB)) (hty : fKd (ty k) = 2) (hq : pc + 3 = q)
    (kk : J x q lv st (upR h a k v) (K (upR h a k v)) T) : J x pc lv (vR x.2.2.2 v :: vR x.2.2.2 a :: st) h ((sR c k a v h).bind K) T := by
  subst hq
  refine J.ite2 fun hk => wrF (h' := upR h a k v) hx hF hc hkN hd hw hT1 hfin hk (nar_r hty) (fit_r hty) rfl rfl (fun H H1 hP ha z o hO => ?_) kk
  exact hP.upR ha z o fun _ => hCell.obj hF hc hk hO (slv_upR hty)
/-! arrays -/
theorem ix_lt {i : Int32} {n : Nat} (h : inB i n = true) : i.toNatClampNeg < n := Nat.not_le.mp fun q => inB_vp h (Or.inr q)
theorem sz_nI (n : Nat) : (n : Nat).toInt32 = Int32.ofNat n := rfl
theorem arw_I {w : Wd} {kd a : Nat} (h1 : kd ≠ 51) (h2 : kd < 60) : arw w h kd a = fun j => .int (hpI h a j) := by
  funext j; unfold arw; rw [if_neg h1, if_pos h2]
theorem arw_L {w : Wd} {a : Nat} : arw w h 51 a = fun j => .long (hpL h a j) := rfl
theorem arw_R {w : Wd} {kd a : Nat} (h2 : 60 ≤ kd) : arw w h kd a = fun j => vR w (hpR h a j) := by
  funext j; unfold arw; rw [if_neg (by omega), if_neg (by omega)]
theorem ro_of {w : Wd} {H : Heap} {a : Nat} (hP : hOk w h H) (hk : 80 ≤ (hpS h a).1) : a < 99 ∧ a ≠ 0 := by
  constructor
  · rcases Nat.lt_or_ge a 99 with z | z
    · exact z
    · rcases Nat.lt_or_ge a (hpN h) with z2 | z2
      · have := (hP.2.2.1 a z z2).2; omega
      · have := hP.2.2.2.1 a z2; omega
  · rintro rfl
    have := hP.2.2.2.2.2
    omega
/-- an int array that is only read -/
theorem ro_I (hx : Ok x cc own d) {H : Heap} {locs : List Loc} {a : Nat} (hP : hOk x.2.2.2 h H) (hS : va_S (wArea x.2.2.2) x.1.2.2.2.2.1.heap H locs) (hk : (hpS h a).1 = 80) :
    a ≠ 0 ∧ ∃ scr : Cell, H[adr x.2.2.2 a]? = some scr ∧ x.1.2.2.2.2.1.isArrayOf scr .int ∧ scr.vm ≠ .unknown ∧ scr.slots.size = (hpS h a).2 ∧ ∀ j, j < (hpS h a).2 → scr.slots[j]? = some (.int (hpI h a j)) := by
  obtain ⟨ha, ha0⟩ := ro_of (a := a) hP (by omega)
  obtain ⟨g1, g2, g3⟩ := hP.2.2.2.2.1 a ha
  obtain ⟨⟨scr, r1, r2, r3, r4, r5⟩, r6⟩ := (show va_X _ _ _ _ _ ∧ _ from ⟨(hx.2.2.2.2.2.2.2.2.2.2.1 a ha).1 (by rw [← g1]; exact hk), (hx.2.2.2.2.2.2.2.2.2.2.1 a ha).2.2 (by rw [← g1]; omega)⟩)
  refine ⟨ha0, scr, ?_, r2, r3, by rw [g1]; exact r4, fun j hj => ?_⟩
  · rw [hS.2.1 _ (Array.getElem?_eq_some_iff.mp r1).1 (Nat.not_le.mpr r6)]; exact r1
  · rw [g1] at hj; rw [r5 j hj, (g3 j).1]
theorem ro_L (hx : Ok x cc own d) {H : Heap} {locs : List Loc} {a : Nat} (hP : hOk x.2.2.2 h H) (hS : va_S (wArea x.2.2.2) x.1.2.2.2.2.1.heap H locs) (hk : (hpS h a).1 = 81) :
    a ≠ 0 ∧ ∃ scr : Cell, H[adr x.2.2.2 a]? = some scr ∧ x.1.2.2.2.2.1.isArrayOf scr .long ∧ scr.vm ≠ .unknown ∧ (hpS h a).2 ≤ scr.slots.size ∧ scr.slots.size.toInt32 = Int32.ofNat (hpS h a).2 ∧ ∀ j, j < (hpS h a).2 → scr.slots[j]? = some (.long (hpL h a j)) := by
  obtain ⟨ha, ha0⟩ := ro_of (a := a) hP (by omega)
  obtain ⟨g1, g2, g3⟩ := hP.2.2.2.2.1 a ha
  obtain ⟨⟨scr, r1, r2, r3, r4, r45, r5, -⟩, r6⟩ := (show va_T _ _ _ _ _ _ _ ∧ _ from ⟨(hx.2.2.2.2.2.2.2.2.2.2.1 a ha).2.1 (by rw [← g1]; exact hk), (hx.2.2.2.2.2.2.2.2.2.2.1 a ha).2.2 (by rw [← g1]; omega)⟩)
  refine ⟨ha0, scr, ?_, r2, r3, by rw [g1]; exact r4, by rw [g1]; exact r45, fun j hj => ?_⟩
  · rw [hS.2.1 _ (Array.getElem?_eq_some_iff.mp r1).1 (Nat.not_le.mpr r6)]; exact r1
  · rw [g1] at hj; rw [r5 j hj, (g3 j).2.1]
theorem tyOf (hx : Ok x cc own d) (i : Nat) {kd : Nat} {t : FieldType} (h : (tys0 x.2.2.2)[i]? = some (wA x.2.2.2 kd, t)) (n : Nat) (z : Nat → Value) : x.1.2.2.2.2.1.isArrayOf (arrV (wA x.2.2.2 kd) n z) t := (hx.2.2.2.2.2.2.1.1.2 i _ h).1 n z
theorem j_alen (hx : On x cc own d) {a : Nat} {K : Int32 → Option ρ} (hd : decode cc pc = .ok (.arraylength, 1)) (hq : pc + 1 = q)
    (kk : ∀ v, J x q lv (.int v :: st) h (K v) T) : J x pc lv (vR x.2.2.2 a :: st) h ((aLen a h).bind K) T := by
  subst hq
  refine J.ite fun hk => J.rd hx (fun hx H locs ls ce sl hP hS k0 => ?_) (kk _)
  have key : ∀ (kd i : Nat) (t : FieldType), (hpS h a).1 = kd → 50 ≤ kd → kd < 80 → (tys0 x.2.2.2)[i]? = some (wA x.2.2.2 kd, t) → W x.1.1 x.1.2.1 x.1.2.2.1 x.1.2.2.2.1 x.1.2.2.2.2.1 x.1.2.2.2.2.2 x.2.1.1 x.2.1.2.1 x.2.1.2.2.1 x.2.1.2.2.2.1 H locs ce sl x.2.1.2.2.2.2 (F0 x.1.2.2.2.2.2 pc ls (vR x.2.2.2 a :: st)) := by
    intro kd i t h1 h2 h3 h4
    obtain ⟨ha, hb, ho⟩ := arr_of hP h2 h3 h1
    rw [vR_pos (by omega)]
    exact W.alen hx.1 hx.2.1 ho (tyOf hx i h4 _ _) (by rw [arrV_size]) rfl rfl hd k0
  unfold aKd at hk
  simp only [Bool.or_eq_true, beq_iff_eq] at hk
  rcases hk with ((((((((hk | hk) | hk) | hk) | hk) | hk) | hk) | hk) | hk) | hk
  · exact key 50 0 _ hk (by omega) (by omega) rfl
  · exact key 51 1 _ hk (by omega) (by omega) rfl
  · exact key 52 2 _ hk (by omega) (by omega) rfl
  · exact key 65 5 _ hk (by omega) (by omega) rfl
  · exact key 70 6 _ hk (by omega) (by omega) rfl
  · exact key 73 7 _ hk (by omega) (by omega) rfl
  · exact key 78 8 _ hk (by omega) (by omega) rfl
  · exact key 79 4 _ hk (by omega) (by omega) rfl
  · obtain ⟨ha0, scr, r1, r2, r3, r4, r5⟩ := ro_I hx hP hS hk
    rw [vR_pos ha0]
    exact W.alen hx.1 hx.2.1 r1 r2 (by rw [r4]) rfl rfl hd k0
  · obtain ⟨ha0, scr, r1, r2, r3, r4, r45, r5⟩ := ro_L hx hP hS hk
    rw [vR_pos ha0]
    exact W.alen hx.1 hx.2.1 r1 r2 r45 rfl rfl hd k0
theorem j_ldI (hx : On x cc own d) {a : Nat} {i : Int32} {K : Int32 → Option ρ} (hd : decode cc pc = .ok (.iaload, 1)) (hq : pc + 1 = q)
    (kk : ∀ v, J x q lv (.int v :: st) h (K v) T) : J x pc lv (.int i :: vR x.2.2.2 a :: st) h ((ldI a i h).bind K) T := by
  subst hq
  refine J.ite fun hk => J.rd hx (fun hx H locs ls ce sl hP hS k0 => ?_) (kk _)
  obtain ⟨hk1, hk2⟩ := hk
  have hlt := ix_lt hk2
  rcases hk1 with hk1 | hk1
  · obtain ⟨ha, hb, ho⟩ := arr_of hP (by omega) (by omega) hk1
    rw [vR_pos (by omega)]
    exact W.iald (v := .int (hpI h a (ixN i))) hx.1 hx.2.1 ho (tyOf hx 0 rfl _ _) (fun q => by cases q) (by rw [arrV_size]; exact inB_vp hk2) (by rw [arrV_read _ _ hlt]; rfl) rfl rfl hd k0
  · obtain ⟨ha0, scr, r1, r2, r3, r4, r5⟩ := ro_I hx hP hS hk1
    rw [vR_pos ha0]
    exact W.iald (v := .int (hpI h a (ixN i))) hx.1 hx.2.1 r1 r2 r3 (by rw [r4]; exact inB_vp hk2) (r5 _ hlt) rfl rfl hd k0
theorem j_ldL (hx : On x cc own d) {a : Nat} {i : Int32} {K : Int64 → Option ρ} (hd : decode cc pc = .ok (.laload, 1)) (hq : pc + 1 = q)
    (kk : ∀ v, J x q lv (.long v :: st) h (K v) T) : J x pc lv (.int i :: vR x.2.2.2 a :: st) h ((ldL a i h).bind K) T := by
  subst hq
  refine J.ite fun hk => J.rd hx (fun hx H locs ls ce sl hP hS k0 => ?_) (kk _)
  obtain ⟨hk1, hk2⟩ := hk
  have hlt := ix_lt hk2
  rcases hk1 with hk1 | hk1
  · obtain ⟨ha, hb, ho⟩ := arr_of hP (by omega) (by omega) hk1
    rw [vR_pos (by omega)]
    exact W.lald (v := .long (hpL h a (ixN i))) hx.1 hx.2.1 ho (tyOf hx 1 rfl _ _) (fun q => by cases q) (by rw [arrV_size]; exact inB_vp hk2) (by rw [arrV_read _ _ hlt]; rfl) rfl rfl hd k0
  · obtain ⟨ha0, scr, r1, r2, r3, r4, r45, r5⟩ := ro_L hx hP hS hk1
    rw [vR_pos ha0]
    exact W.lald (v := .long (hpL h a (ixN i))) hx.1 hx.2.1 r1 r2 r3 (fun e => by rcases e with e | e; exact inB_vp hk2 (Or.inl e); exact inB_vp hk2 (Or.inr (Nat.le_trans r4 e))) (r5 _ hlt) rfl rfl hd k0
theorem j_ldZ (hx : On x cc own d) {a : Nat} {i : Int32} {K : Int32 → Option ρ} (hd : decode cc pc = .ok (.baload, 1)) (hq : pc + 1 = q)
    (kk : ∀ v, J x q lv (.int v :: st) h (K v) T) : J x pc lv (.int i :: vR x.2.2.2 a :: st) h ((ldZ a i h).bind K) T := by
  subst hq
  refine J.ite fun hk => J.rd hx (fun hx H locs ls ce sl hP hS k0 => ?_) (kk _)
  obtain ⟨hk1, hk2⟩ := hk
  have hlt := ix_lt hk2
  obtain ⟨ha, hb, ho⟩ := arr_of hP (by omega) (by omega) hk1
  rw [vR_pos (by omega)]
  exact W.zald (v := .int (hpI h a (ixN i))) hx.1 hx.2.1 ho (tyOf hx 2 rfl _ _) (fun q => by cases q) (by rw [arrV_size]; exact inB_vp hk2) (by rw [arrV_read _ _ hlt]; rfl) rfl rfl hd k0
theorem j_ldR (hx : On x cc own d) {c t a : Nat} {C : String} {i : Int32} {K : Nat → Option ρ} (hd : decode cc pc = .ok (.aaload, 1)) (hq : pc + 1 = q) (hc : c < 20) (ht : refs0[t]? = some (c, C))
    (kk : ∀ v, J x q lv (vR x.2.2.2 v :: st) h (K v) T) : J x pc lv (.int i :: vR x.2.2.2 a :: st) h ((ldR c a i h).bind K) T := by
  subst hq
  refine J.ite fun hk => J.rd hx (fun hx H locs ls ce sl hP hS k0 => ?_) (kk _)
  obtain ⟨hk1, hk2⟩ := hk
  have hlt := ix_lt hk2
  obtain ⟨ha, hb, ho⟩ := arr_of hP (by omega) (by omega) hk1
  rw [vR_pos (by omega)]
  have e3 : (tys0 x.2.2.2)[5 + t]? = some (wA x.2.2.2 (60 + c), .object C) := by
    unfold tys0
    rw [List.getElem?_append_right (by simp), show 5 + t - [(wA x.2.2.2 50, FieldType.int), (wA x.2.2.2 51, .long), (wA x.2.2.2 52, .boolean), (wA x.2.2.2 53, .byte), (wA x.2.2.2 79, .array .boolean)].length = t by simp, List.getElem?_map, ht]
    rfl
  exact W.aald (ty := .object C) (v := vR x.2.2.2 (hpR h a (ixN i))) hx.1 hx.2.1 ho (tyOf hx _ e3 _ _) rfl (fun q => by cases q) (by rw [arrV_size]; exact inB_vp hk2) (by rw [arrV_read _ _ hlt, arw_R (by omega)]; rfl) rfl rfl hd k0
theorem up2_same {α : Type} {f : Nat → Nat → α} {a k : Nat} {v : α} : up2 f a k v a = fun j => if j = k then v else f a j := by funext j; exact up2_at j
theorem hCell.arr {w : Wd} {h' : Hp} {H1 : Heap} {a kd : Nat} {V : Nat → Value} (h50 : 50 ≤ kd) (hk : (hpS h' a).1 = kd)
    (ho : H1[adr w a]? = some (arrV (wA w kd) (hpS h' a).2 V)) (hv : ∀ j, V j = arw w h' kd a j) : hCell w h' H1 a := by
  refine ⟨fun _ z => by omega, fun z => ?_⟩
  rw [hk, ho]
  rw [show V = arw w h' kd a from funext hv]
theorem j_stI (hx : On x cc own d) {a : Nat} {i v : Int32} {K : Hp → Option ρ} (hd : decode cc pc = .ok (.iastore, 1)) (hq : pc + 1 = q)
    (kk : J x q lv st (upI h a (ixN i) v) (K (upI h a (ixN i) v)) T) : J x pc lv (.int v :: .int i :: vR x.2.2.2 a :: st) h ((stI a i v h).bind K) T := by
  subst hq
  refine J.ite2 fun hk => J.wr (h' := upI h a (ixN i) v) hx rfl rfl (fun hx H locs ls ce sl hP hS k0 => ?_) kk
  obtain ⟨ha, hb, ho⟩ := arr_of hP (by omega) (by omega) hk.1
  rw [vR_pos (by omega)]
  refine W.iast hx.1 hx.2.1 ho (tyOf hx 0 rfl _ _) (fun q => by cases q) (by rw [arrV_size]; exact inB_vp hk.2) rfl rfl hd fun H1 e1 e2 e3 => k0 H1 _ (hP.upI ha e2 e3 fun _ => hCell.arr (kd := 50) (by omega) hk.1 (by rw [e1, arrV_store]; rfl) fun j => ?_) (hS.put e2 e3 (adr_area ha))
  rw [arw_I (by omega) (by omega), arw_I (by omega) (by omega)]
  show (if j = ixN i then Value.int v else Value.int (hpI h a j)) = Value.int (up2 h.2.1 a (ixN i) v a j)
  rw [up2_at]
  by_cases e : j = ixN i
  · rw [if_pos e, if_pos e]
  · rw [if_neg e, if_neg e]; rfl
theorem j_stZ (hx : On x cc own d) {a : Nat} {i v : Int32} {K : Hp → Option ρ} (hd : decode cc pc = .ok (.bastore, 1)) (hq : pc + 1 = q)
    (kk : J x q lv st (upI h a (ixN i) v) (K (upI h a (ixN i) v)) T) : J x pc lv (.int v :: .int i :: vR x.2.2.2 a :: st) h ((stZ a i v h).bind K) T := by
  subst hq
  refine J.ite2 fun hk => J.wr (h' := upI h a (ixN i) v) hx rfl rfl (fun hx H locs ls ce sl hP hS k0 => ?_) kk
  obtain ⟨hk, hz⟩ := hk
  obtain ⟨ha, hb, ho⟩ := arr_of hP (by omega) (by omega) hk.1
  rw [vR_pos (by omega)]
  refine W.zast hx.1 hx.2.1 ho (tyOf hx 2 rfl _ _) (fun q => by cases q) (by rw [arrV_size]; exact inB_vp hk.2) rfl rfl hd fun H1 e1 e2 e3 => k0 H1 _ (hP.upI ha e2 e3 fun _ => hCell.arr (kd := 52) (by omega) hk.1 (by rw [e1, nar_z hz, arrV_store]; rfl) fun j => ?_) (hS.put e2 e3 (adr_area ha))
  rw [arw_I (by omega) (by omega), arw_I (by omega) (by omega)]
  show (if j = ixN i then Value.int v else Value.int (hpI h a j)) = Value.int (up2 h.2.1 a (ixN i) v a j)
  rw [up2_at]
  by_cases e : j = ixN i
  · rw [if_pos e, if_pos e]
  · rw [if_neg e, if_neg e]; rfl
theorem j_stL (hx : On x cc own d) {a : Nat} {i : Int32} {v : Int64} {K : Hp → Option ρ} (hd : decode cc pc = .ok (.lastore, 1)) (hq : pc + 1 = q)
    (kk : J x q lv st (upL h a (ixN i) v) (K (upL h a (ixN i) v)) T) : J x pc lv (.long v :: .int i :: vR x.2.2.2 a :: st) h ((stL a i v h).bind K) T := by
  subst hq
  refine J.ite2 fun hk => J.wr (h' := upL h a (ixN i) v) hx rfl rfl (fun hx H locs ls ce sl hP hS k0 => ?_) kk
  obtain ⟨ha, hb, ho⟩ := arr_of hP (by omega) (by omega) hk.1
  rw [vR_pos (by omega)]
  refine W.last hx.1 hx.2.1 ho (tyOf hx 1 rfl _ _) (fun q => by cases q) (by rw [arrV_size]; exact inB_vp hk.2) rfl rfl hd fun H1 e1 e2 e3 => k0 H1 _ (hP.upL ha e2 e3 fun _ => hCell.arr (kd := 51) (by omega) hk.1 (by rw [e1, arrV_store]; rfl) fun j => ?_) (hS.put e2 e3 (adr_area ha))
  rw [arw_L, arw_L]
  show (if j = ixN i then Value.long v else Value.long (hpL h a j)) = Value.long (up2 h.2.2.1 a (ixN i) v a j)
  rw [up2_at]
  by_cases e : j = ixN i
  · rw [if_pos e, if_pos e]
  · rw [if_neg e, if_neg e]; rfl
end PR
