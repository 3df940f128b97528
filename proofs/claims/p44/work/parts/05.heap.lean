abbrev LKc (own : String) (i : Nat) (Tt : u_T) (k : Nat) : Prop := (∃ ref, Cond.fieldLink own i ref (Tt k).2.1 (Tt k).2.2.1 ∈ TB ∧ (ref = (Tt k).1 ∨ Cond.sameField ref (Tt k).1 (Tt k).2.1 (Tt k).2.2.1 ∈ TB)) ∨ ∃ host, Cond.fieldLinkNest own i (Tt k).1 (Tt k).2.1 (Tt k).2.2.1 host ∈ NW
section HR
variable {x : Cx} {cc : ByteArray} {own : String} {d pc q : Nat} {lv lv' : List (Nat × Value)} {st : List Value} {h : Hp} {ρ : Type} {T : ρ → Prop}
/-- a step that only reads the machine's heap as the pure one has it -/
theorem J.rd {K : Option ρ} {st2 : List Value}
    (hx : On x cc own d) (hs : Ok x cc own d → ∀ (H : Heap) (locs : List Loc) (ls : Array Slot) (ce sl : Nat), hOk x.2.2.2 h H → va_S (wArea x.2.2.2) x.1.2.2.2.2.1.heap H locs → W x.1.1 x.1.2.1 x.1.2.2.1 x.1.2.2.2.1 x.1.2.2.2.2.1 x.1.2.2.2.2.2 x.2.1.1 x.2.1.2.1 x.2.1.2.2.1 x.2.1.2.2.2.1 H locs ce sl x.2.1.2.2.2.2 (F0 x.1.2.2.2.2.2 q ls st2) →
      W x.1.1 x.1.2.1 x.1.2.2.1 x.1.2.2.2.1 x.1.2.2.2.2.1 x.1.2.2.2.2.2 x.2.1.1 x.2.1.2.1 x.2.1.2.2.1 x.2.1.2.2.2.1 H locs ce sl x.2.1.2.2.2.2 (F0 x.1.2.2.2.2.2 pc ls st))
    (k : J x q lv st2 h K T) : J x pc lv st h K T := by
  obtain ⟨rfl, rfl, rfl⟩ := hx
  exact fun r hr ht => ⟨(k r hr ht).1, fun hok H locs ls hl hP hS hh => hs hok H locs ls _ _ hP hS ((k r hr ht).2 hok H locs ls hl hP hS hh)⟩
theorem J.ite {c : Prop} [Decidable c] {α : Type} {v : α} {K : α → Option ρ} (k : c → J x pc lv st h (K v) T) : J x pc lv st h ((if c then some v else none).bind K) T := by
  by_cases hc : c
  · rw [if_pos hc]; exact k hc
  · rw [if_neg hc]; intro r hr; cases hr
theorem obj_of {w : Wd} {H : Heap} {a c : Nat} {C : String} {Tt : u_T} {N : Nat} {ty : Nat → FieldType} (hP : hOk w h H) (hF : CF c C Tt N ty) (hc : c + 1 < 50) (hk : (hpS h a).1 = c + 1) :
    99 ≤ a ∧ a < hpN h ∧ t_OB (adr w a) ((wD w).1 c) N ((wD w).2 c) H (slv w h ty a) := by
  obtain ⟨-, -, h1, h2, h3, -⟩ := hP
  have ha : 99 ≤ a := by
    rcases Nat.lt_or_ge a 99 with q | q
    · rcases (h3 a q).2.1 with e | e <;> omega
    · exact q
  have hb : a < hpN h := by
    rcases Nat.lt_or_ge a (hpN h) with q | q
    · exact q
    · have := h2 a q; omega
  refine ⟨ha, hb, ?_⟩
  obtain ⟨g, gq, gt⟩ := ((h1 a ha hb).1.1 (by omega) (by omega))
  rw [hk, show c + 1 - 1 = c from rfl] at gq gt
  have e : g = ((C, Tt, N), ty) := Option.some.inj (gq.symm.trans hF.1)
  subst e
  exact gt
theorem arr_of {w : Wd} {H : Heap} {a kd : Nat} (hP : hOk w h H) (h50 : 50 ≤ kd) (h70 : kd < 80) (hk : (hpS h a).1 = kd) :
    99 ≤ a ∧ a < hpN h ∧ H[adr w a]? = some (arrV (wA w kd) (hpS h a).2 (arw w h kd a)) := by
  obtain ⟨-, -, h1, h2, h3, -⟩ := hP
  have ha : 99 ≤ a := by
    rcases Nat.lt_or_ge a 99 with q | q
    · rcases (h3 a q).2.1 with e | e <;> omega
    · exact q
  have hb : a < hpN h := by
    rcases Nat.lt_or_ge a (hpN h) with q | q
    · exact q
    · have := h2 a q; omega
  refine ⟨ha, hb, ?_⟩
  have := (h1 a ha hb).1.2 (by omega)
  rw [hk] at this
  exact this
theorem cls_fst {c : Nat} {C : String} {Tt : u_T} {N : Nat} {ty : Nat → FieldType} (hF : CF c C Tt N ty) : (cls0.map Prod.fst)[c]? = some (C, Tt, N) := by
  rw [List.getElem?_map, hF.1]; rfl
/-- reading a field, by a word of the own class or of a nest mate -/
theorem rdF (hx : On x cc own d) {c k i a N : Nat} {C : String} {Tt : u_T} {ty : Nat → FieldType} (hF : CF c C Tt N ty) (hc : c + 1 < 50) (hkN : k < N) (hd : decode cc pc = .ok (.getfield i, 3))
    (hw : LKc own i Tt k) (hT1 : True) (hk : (hpS h a).1 = c + 1) {K : Option ρ}
    (kk : J x (pc + 3) lv (slv x.2.2.2 h ty a k :: st) h K T) : J x pc lv (vR x.2.2.2 a :: st) h K T := by
  refine J.rd hx (fun hx H locs ls ce sl hP hS k0 => ?_) kk
  obtain ⟨ha, hb, ho⟩ := obj_of hP hF hc hk
  rw [vR_pos (by omega)]
  obtain ⟨hK, hNw⟩ := hx.2.2.2.2.2.2.1
  obtain ⟨cell, q1, q2, q3, q4⟩ := ho
  obtain ⟨hSl, hfc, kC, hkC, hkind⟩ := hK.1 c _ (cls_fst hF)
  obtain ⟨cf, kf, fi, f, hi, hsl⟩ := hSl k hkN
  have hi' : x.1.2.2.2.2.1.fieldFound? (Tt k).1 (Tt k).2.1 (Tt k).2.2.1 = some (cf, kf, fi, f) := hi
  have hst := (u_facts hfc hkC (u_lays hx.2.2.2.2.1 hF.2.1 hkN) hi).1
  rcases hw with ⟨ref, hw, hsm⟩ | ⟨host, hw⟩
  · have hi2 : x.1.2.2.2.2.1.fieldFound? ref (Tt k).2.1 (Tt k).2.2.1 = some (cf, kf, fi, f) := by
      rcases hsm with rfl | hsm
      · exact hi'
      · exact u_same (hx.2.2.2.2.1 _ hsm) _ hi'
    exact W.getf hx.1 hx.2.1 hx.2.2.2.1 (hx.2.2.2.2.1 _ hw) hi2 hst q1 (by rw [q3]; exact fun h => by cases h) (v := slv x.2.2.2 h ty a k) (by rw [hsl, q4 k hkN]) rfl rfl hd k0
  · exact va_Wgetf hx.1 hx.2.1 hx.2.2.2.1 (va_Nw.use rfl (hNw _ hw)) hi' hst q1 (by rw [q3]; exact fun h => by cases h) (v := slv x.2.2.2 h ty a k) (by rw [hsl, q4 k hkN]) rfl rfl hd k0
theorem j_gI (hx : On x cc own d) {c k i a N : Nat} {C : String} {Tt : u_T} {ty : Nat → FieldType} {K : Int32 → Option ρ} (hd : decode cc pc = .ok (.getfield i, 3)) (hF : CF c C Tt N ty) (hc : c + 1 < 50) (hkN : k < N)
    (hw : LKc own i Tt k) (hT1 : True) (hty : fKd (ty k) = 0) (hq : pc + 3 = q)
    (kk : ∀ v, J x q lv (.int v :: st) h (K v) T) : J x pc lv (vR x.2.2.2 a :: st) h ((gI c k a h).bind K) T := by
  subst hq
  refine J.ite fun hk => rdF hx hF hc hkN hd hw hT1 hk ?_
  have e : slv x.2.2.2 h ty a k = .int (hpI h a k) := by unfold slv; rw [hty]; rfl
  rw [e]; exact kk _
theorem j_gL (hx : On x cc own d) {c k i a N : Nat} {C : String} {Tt : u_T} {ty : Nat → FieldType} {K : Int64 → Option ρ} (hd : decode cc pc = .ok (.getfield i, 3)) (hF : CF c C Tt N ty) (hc : c + 1 < 50) (hkN : k < N)
    (hw : LKc own i Tt k) (hT1 : True) (hty : fKd (ty k) = 1) (hq : pc + 3 = q)
    (kk : ∀ v, J x q lv (.long v :: st) h (K v) T) : J x pc lv (vR x.2.2.2 a :: st) h ((gL c k a h).bind K) T := by
  subst hq
  refine J.ite fun hk => rdF hx hF hc hkN hd hw hT1 hk ?_
  have e : slv x.2.2.2 h ty a k = .long (hpL h a k) := by unfold slv; rw [hty]; rfl
  rw [e]; exact kk _
theorem j_gR (hx : On x cc own d) {c k i a N : Nat} {C : String} {Tt : u_T} {ty : Nat → FieldType} {K : Nat → Option ρ} (hd : decode cc pc = .ok (.getfield i, 3)) (hF : CF c C Tt N ty) (hc : c + 1 < 50) (hkN : k < N)
    (hw : LKc own i Tt k) (hT1 : True) (hty : fKd (ty k) = 2) (hq : pc + 3 = q)
    (kk : ∀ v, J x q lv (vR x.2.2.2 v :: st) h (K v) T) : J x pc lv (vR x.2.2.2 a :: st) h ((gR c k a h).bind K) T := by
  subst hq
  refine J.ite fun hk => rdF hx hF hc hkN hd hw hT1 hk ?_
  have e : slv x.2.2.2 h ty a k = vR x.2.2.2 (hpR h a k) := by unfold slv; rw [hty]; rfl
  rw [e]; exact kk _
theorem adr_inj {w : Wd} {a b : Nat} (ha : 99 ≤ a) (hb : 99 ≤ b) (h : adr w a = adr w b) : a = b := by
  unfold adr at h
  rw [if_neg (by omega), if_neg (by omega)] at h
  omega
theorem adr_area {w : Wd} {a : Nat} (ha : 99 ≤ a) : wArea w (adr w a) := by
  unfold adr wArea
  rw [if_neg (by omega)]
  omega
/-- the machine's heap after a store into one cell -/
theorem hOk.put {w : Wd} {h h' : Hp} {H H1 : Heap} {a : Nat} (hP : hOk w h H) (ha : 99 ≤ a) (hS : ∀ b, hpS h' b = hpS h b) (hN : hpN h' = hpN h)
    (hI : ∀ b k, b ≠ a → hpI h' b k = hpI h b k) (hL : ∀ b k, b ≠ a → hpL h' b k = hpL h b k) (hR : ∀ b k, b ≠ a → hpR h' b k = hpR h b k)
    (hz : H1.size = H.size) (ho : ∀ q, q ≠ adr w a → H1[q]? = H[q]?) (hc : a < hpN h → hCell w h' H1 a) : hOk w h' H1 := by
  obtain ⟨h0, h1, h2, h3, h4, h5⟩ := hP
  refine ⟨by rw [hN]; exact h0, by rw [hz, hN]; exact h1, fun b hb hb2 => ?_, fun b hb => ?_, fun b hb => ?_, by rw [hS]; exact h5⟩
  · rw [hN] at hb2
    obtain ⟨g1, g2⟩ := h2 b hb hb2
    refine ⟨?_, by rw [hS]; exact g2⟩
    by_cases hba : b = a
    · subst hba; exact hc hb2
    · have hne : adr w b ≠ adr w a := fun e => hba (adr_inj hb ha e)
      unfold hCell
      rw [hS]
      have e1 : ∀ ty k, slv w h' ty b k = slv w h ty b k := fun ty k => by unfold slv; rw [hI b k hba, hL b k hba, hR b k hba]
      have e2 : arw w h' (hpS h b).1 b = arw w h (hpS h b).1 b := by funext j; unfold arw; rw [hI b j hba, hL b j hba, hR b j hba]
      refine ⟨fun z1 z2 => ?_, fun z => ?_⟩
      · obtain ⟨qq, r1, r2⟩ := g1.1 z1 z2
        exact ⟨qq, r1, (r2.kept (ho _ hne)).to (fun k _ => (e1 qq.2 k).symm)⟩
      · rw [ho _ hne, e2]; exact g1.2 z
  · rw [hS]; exact h3 b (by rw [hN] at hb; exact hb)
  · have hba : b ≠ a := by omega
    rw [hS]
    obtain ⟨g1, g2, g3⟩ := h4 b hb
    exact ⟨g1, g2, fun k => by rw [hI b k hba, hL b k hba, hR b k hba]; exact g3 k⟩
theorem up2_ne {α : Type} {f : Nat → Nat → α} {a k : Nat} {v : α} (b j : Nat) (hb : b ≠ a) : up2 f a k v b j = f b j := if_neg fun e => hb e.1
theorem hOk.upI {w : Wd} {H H1 : Heap} {a k : Nat} {v : Int32} (hP : hOk w h H) (ha : 99 ≤ a) (hz : H1.size = H.size) (ho : ∀ q, q ≠ adr w a → H1[q]? = H[q]?) (hc : a < hpN h → hCell w (upI h a k v) H1 a) : hOk w (upI h a k v) H1 :=
  hP.put ha (fun _ => rfl) rfl (fun b j hb => up2_ne b j hb) (fun _ _ _ => rfl) (fun _ _ _ => rfl) hz ho hc
theorem hOk.upL {w : Wd} {H H1 : Heap} {a k : Nat} {v : Int64} (hP : hOk w h H) (ha : 99 ≤ a) (hz : H1.size = H.size) (ho : ∀ q, q ≠ adr w a → H1[q]? = H[q]?) (hc : a < hpN h → hCell w (upL h a k v) H1 a) : hOk w (upL h a k v) H1 :=
  hP.put ha (fun _ => rfl) rfl (fun _ _ _ => rfl) (fun b j hb => up2_ne b j hb) (fun _ _ _ => rfl) hz ho hc
theorem hOk.upR {w : Wd} {H H1 : Heap} {a k : Nat} {v : Nat} (hP : hOk w h H) (ha : 99 ≤ a) (hz : H1.size = H.size) (ho : ∀ q, q ≠ adr w a → H1[q]? = H[q]?) (hc : a < hpN h → hCell w (upR h a k v) H1 a) : hOk w (upR h a k v) H1 :=
  hP.put ha (fun _ => rfl) rfl (fun _ _ _ => rfl) (fun _ _ _ => rfl) (fun b j hb => up2_ne b j hb) hz ho hc
/-- a step that writes one cell -/
theorem J.wr {K : Option ρ} {h' : Hp} {st2 : List Value} (hx : On x cc own d) (hN : hpN h' = hpN h) (hM : hpM h' = hpM h)
    (hs : Ok x cc own d → ∀ (H : Heap) (locs : List Loc) (ls : Array Slot) (ce sl : Nat), hOk x.2.2.2 h H → va_S (wArea x.2.2.2) x.1.2.2.2.2.1.heap H locs →
      (∀ H1 locs1, hOk x.2.2.2 h' H1 → va_S (wArea x.2.2.2) x.1.2.2.2.2.1.heap H1 locs1 → W x.1.1 x.1.2.1 x.1.2.2.1 x.1.2.2.2.1 x.1.2.2.2.2.1 x.1.2.2.2.2.2 x.2.1.1 x.2.1.2.1 x.2.1.2.2.1 x.2.1.2.2.2.1 H1 locs1 ce sl x.2.1.2.2.2.2 (F0 x.1.2.2.2.2.2 q ls st2)) →
      W x.1.1 x.1.2.1 x.1.2.2.1 x.1.2.2.2.1 x.1.2.2.2.2.1 x.1.2.2.2.2.2 x.2.1.1 x.2.1.2.1 x.2.1.2.2.1 x.2.1.2.2.2.1 H locs ce sl x.2.1.2.2.2.2 (F0 x.1.2.2.2.2.2 pc ls st))
    (k : J x q lv st2 h' K T) : J x pc lv st h K T := fun r hr ht => by
  obtain ⟨rfl, rfl, rfl⟩ := hx
  obtain ⟨⟨a1, a2⟩, a3⟩ := k r hr ht
  rw [hN] at a1
  rw [hM] at a2
  refine ⟨⟨a1, a2⟩, fun hok H locs ls hl hP hS hh => hs hok H locs ls _ _ hP hS fun H1 locs1 hP1 hS1 => ?_⟩
  have hh' : hLe x.2.2.1.2.1 h' := ⟨by rw [hN]; exact hh.1, by rw [hM]; exact hh.2⟩
  have := a3 hok H1 locs1 ls hl hP1 hS1 hh'
  rw [hN, hM] at this
  exact this
theorem fin_or {b : Bool} : b = false ∨ b = true := by cases b <;> simp
/-- writing a field: one that is not final, or a final one of the own class in its constructor -/
theorem wrF (hx : On x cc own d) {c k i a N : Nat} {C : String} {Tt : u_T} {ty : Nat → FieldType} (hF : CF c C Tt N ty) (hc : c + 1 < 50) (hkN : k < N) (hd : decode cc pc = .ok (.putfield i, 3))
    (hw : LKc own i Tt k) (hT1 : True)
    (hfin : (Tt k).2.2.2 = false ∨ (x.2.2.1.1.2.2.2.2.2 = "<init>" ∧ (Tt k).1 = own ∧ (Tt k).2.2.2 = true ∧ Cond.fieldLink own i (Tt k).1 (Tt k).2.1 (Tt k).2.2.1 ∈ TB)) (hk : (hpS h a).1 = c + 1) {v : Value} (hn : narrow (ty k) v = v) (hfit : fits (ty k) v = true) {h' : Hp} {K : Option ρ}
    (hN : hpN h' = hpN h) (hM : hpM h' = hpM h)
    (hup : ∀ H H1 : Heap, hOk x.2.2.2 h H → 99 ≤ a → H1.size = H.size → (∀ q, q ≠ adr x.2.2.2 a → H1[q]? = H[q]?) → t_OB (adr x.2.2.2 a) ((wD x.2.2.2).1 c) N ((wD x.2.2.2).2 c) H1 (updV (slv x.2.2.2 h ty a) k v) → hOk x.2.2.2 h' H1)
    (kk : J x (pc + 3) lv st h' K T) : J x pc lv (v :: vR x.2.2.2 a :: st) h K T := by
  refine J.wr hx hN hM (fun hx H locs ls ce sl hP hS k0 => ?_) kk
  obtain ⟨ha, hb, ho⟩ := obj_of hP hF hc hk
  rw [vR_pos (by omega)]
  obtain ⟨hK, hNw⟩ := hx.2.2.2.2.2.2.1
  have hap := va_apart (own := own) hx.2.2.2.2.1 hF.2.1 ty hF.2.2.1 hF.2.2.2 hK (cls_fst hF)
  obtain ⟨cell, q1, q2, q3, q4⟩ := ho
  obtain ⟨hSl, hfc, kC, hkC, hkind⟩ := hK.1 c _ (cls_fst hF)
  obtain ⟨cf, kf, fi, f, hi, hsl⟩ := hSl k hkN
  have hi' : x.1.2.2.2.2.1.fieldFound? (Tt k).1 (Tt k).2.1 (Tt k).2.2.1 = some (cf, kf, fi, f) := hi
  have hst := (u_facts hfc hkC (u_lays hx.2.2.2.2.1 hF.2.1 hkN) hi).1
  have fin2 : ∀ H1 : Heap, H1[adr x.2.2.2 a]? = some (cell.setSlot f.slot v) → H1.size = H.size → (∀ q, q ≠ adr x.2.2.2 a → H1[q]? = H[q]?) → W x.1.1 x.1.2.1 x.1.2.2.1 x.1.2.2.2.1 x.1.2.2.2.2.1 x.1.2.2.2.2.2 x.2.1.1 x.2.1.2.1 x.2.1.2.2.1 x.2.1.2.2.2.1 H1 (locs ++ [⟨adr x.2.2.2 a, f.slot⟩]) ce sl x.2.1.2.2.2.2 (F0 x.1.2.2.2.2.2 (pc + 3) ls st) := by
    intro H1 e1 e2 e3
    refine k0 H1 _ (hup H H1 hP ha e2 e3 ⟨_, e1, q2, q3, ?_⟩) (hS.put e2 e3 (adr_area ha))
    rw [hsl]
    exact t_set q4 hap hkN v
  rcases hfin with hfin | ⟨hin2, hCo, hfin, hw2⟩
  · have hlay := hx.2.2.2.2.1 _ (hF.2.1 _ (u_in_lay hkN))
    unfold u_lay at hlay
    rw [if_neg (by rw [hfin]; decide)] at hlay
    have h6 := u_store hfc hkC hkind hlay hi (hF.2.2.1 k hkN) hn hfit
    rcases hw with ⟨ref, hw, hsm⟩ | ⟨host, hw⟩
    · have hi2 : x.1.2.2.2.2.1.fieldFound? ref (Tt k).2.1 (Tt k).2.2.1 = some (cf, kf, fi, f) := by
        rcases hsm with rfl | hsm
        · exact hi'
        · exact u_same (hx.2.2.2.2.1 _ hsm) _ hi'
      exact W.putK hx.1 hx.2.1 (f := f) ⟨hx.2.2.2.1, hx.2.2.2.2.1 _ hw, ⟨_, _, _, hi2⟩, hst⟩ (by rw [q2]; exact h6) q1 q3 (by rw [hsl]; exact k2_hasslot (q4 k hkN)) rfl rfl hd fin2
    · exact va_WputK hx.1 hx.2.1 (f := f) hx.2.2.2.1 (va_Nw.use rfl (hNw _ hw)) hi' hst (by rw [q2]; exact h6) q1 q3 (by rw [hsl]; exact k2_hasslot (q4 k hkN)) rfl rfl hd fin2
  · have hlay := hx.2.2.2.2.1 _ (hF.2.1 _ (u_in_lay hkN))
    unfold u_lay at hlay
    rw [if_pos hfin] at hlay
    have hcf : x.1.2.2.2.2.2.cls = cf := by
      obtain ⟨_, _, c', _, _, _, -, -, hf', -, -, -, hown2, -⟩ := Cond.laysFinal_spec hlay
      have e1 : c' = cf := by have := hi.symm.trans hf'; simp at this; exact this.1.symm
      rw [hCo] at hown2
      rw [← e1]; exact Option.some.inj (hx.2.2.2.1.symm.trans hown2)
    have h6 := u_fits hfc hkC hkind (Or.inr hlay) hi (hF.2.2.1 k hkN) hn hfit
    exact W.putFinK hx.1 hx.2.1 hx.2.2.2.1 (hx.2.2.2.2.1 _ hw2) hi' hst hcf (hx.2.2.2.2.2.2.2.1.2.trans hin2) (by rw [q2]; exact h6) q1 q3 (by rw [hsl]; exact k2_hasslot (q4 k hkN)) rfl rfl hd fin2
end HR
