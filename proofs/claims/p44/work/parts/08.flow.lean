section FR
variable {x : Cx} {cc : ByteArray} {own : String} {d pc q : Nat} {lv lv' : List (Nat × Value)} {st : List Value} {h : Hp} {ρ : Type} {T : ρ → Prop}
/-! loops -/
/-- what a loop's body may count on: at its head again with a state, or out of it -/
def TLo {S : Type} (x : Cx) (pc : Nat) (lvf : S → List (Nat × Value)) (st : List Value) (hpf : S → Hp) (T : ρ → Prop) : S ⊕ ρ → Prop := fun r => match r with
  | .inl s => hLe (hpf s) x.2.2.1.2.2 ∧ G x pc (lvf s) st (hpf s)
  | .inr r => T r
theorem j_loop {S : Type} {lvf : S → List (Nat × Value)} {hpf : S → Hp} {f : S → Option (S ⊕ ρ)} (hb : ∀ s, J x pc (lvf s) st (hpf s) (f s) (TLo x pc lvf st hpf T)) (s : S) : J x pc (lvf s) st (hpf s) (lp f s) T := by
  intro r hr ht
  obtain ⟨n, hn⟩ := lp_iff.mp hr
  revert s
  induction n with
  | zero => intro s _ hn; cases hn
  | succ n ih =>
    intro s _ hn
    simp only [lpN] at hn
    cases hf : f s with
    | none => rw [hf] at hn; cases hn
    | some v =>
      rw [hf] at hn
      cases v with
      | inl s' => exact hb s _ hf (ih s' (lp_iff.mpr ⟨n, hn⟩) hn)
      | inr r' =>
        have hn : r' = r := Option.some.inj hn
        subst hn
        exact hb s _ hf ht
theorem j_back {S : Type} {lvf : S → List (Nat × Value)} {hpf : S → Hp} (ks : List Nat) (s : S) (hl : lv_pick lv ks = lvf s) (hh : h = hpf s) : J x pc lv st h (some (.inl s)) (TLo x pc lvf st hpf T) := by
  intro r hr ht
  have hr : Sum.inl s = r := Option.some.inj hr
  subst hr
  subst hh
  exact ⟨ht.1, fun hok H locs ls h1 h2 h3 h4 => ht.2 hok H locs ls (lv_sub h1 ks hl) h2 h3 h4⟩
theorem j_exit {S : Type} {lvf : S → List (Nat × Value)} {hpf : S → Hp} {pc0 : Nat} {st0 : List Value} {K : Option ρ} (k : J x pc lv st h K T) : J x pc lv st h (xt K) (TLo x pc0 lvf st0 hpf T) := by
  intro r hr ht
  cases hK : K with
  | none => rw [hK] at hr; cases hr
  | some v =>
    rw [hK] at hr
    have hr : Sum.inr v = r := Option.some.inj hr
    subst hr
    exact k v hK ht
theorem j_sub {K : Option ρ} (ks : List Nat) (hl : lv_pick lv ks = lv') (k : J x pc lv' st h K T) : J x pc lv st h K T := fun r hr ht =>
  ⟨(k r hr ht).1, fun hok H locs ls h1 h2 h3 h4 => (k r hr ht).2 hok H locs ls (lv_sub h1 ks hl) h2 h3 h4⟩
theorem j_eq {K K' : Option ρ} (e : K = K') (k : J x pc lv st h K' T) : J x pc lv st h K T := e ▸ k
theorem j_none : J x pc lv st h (none : Option ρ) T := fun r hr => by cases hr
/-! switches -/
def JL (x : Cx) (pc : Int) (lv : List (Nat × Value)) (st : List Value) (h : Hp) {ρ : Type} (T : ρ → Prop) : List Int → List (Option ρ) → Prop
  | o :: os, K :: Ks => (∃ t : Nat, pc + o = (t : Int) ∧ J x t lv st h K T) ∧ JL x pc lv st h T os Ks
  | [], [] => True
  | _, _ => False
theorem JL.get {pc : Int} {os : List Int} {Ks : List (Option ρ)} : ∀ (_ : JL x pc lv st h T os Ks) (i : Nat) (o : Int), os[i]? = some o → ∃ K, Ks[i]? = some K ∧ ∃ t : Nat, pc + o = (t : Int) ∧ J x t lv st h K T := by
  induction os generalizing Ks with
  | nil => intro _ i o ho; simp at ho
  | cons o' os ih =>
    intro hj i o ho
    cases Ks with
    | nil => exact hj.elim
    | cons K Ks =>
      cases i with
      | zero => simp at ho; subst ho; exact ⟨K, rfl, hj.1⟩
      | succ i => simpa using ih hj.2 i o (by simpa using ho)
theorem JL.len {pc : Int} {os : List Int} {Ks : List (Option ρ)} : JL x pc lv st h T os Ks → os.length = Ks.length := by
  induction os generalizing Ks with
  | nil => intro hj; cases Ks with
    | nil => rfl
    | cons => exact hj.elim
  | cons o os ih => intro hj; cases Ks with
    | nil => exact hj.elim
    | cons => simp [ih hj.2]
theorem j_tsw (hx : On x cc own d) {dflt lo hi : Int} {offs : Array Int} {len td : Nat} {v : Int32} {Ks : List (Option ρ)} {Kd : Option ρ} (hd : decode cc pc = .ok (.tableswitch dflt lo hi offs, len)) (ht : (pc : Int) + dflt = (td : Int)) (hlen : hi - lo + 1 = (offs.toList.length : Int))
    (kd : J x td lv st h Kd T) (kl : JL x pc lv st h T offs.toList Ks) : J x pc lv (.int v :: st) h (tsw v lo Ks Kd) T := by
  have hL := kl.len
  by_cases h1 : v.toInt < lo
  · unfold tsw
    rw [if_pos h1]
    exact J.step hx (fun hx H locs ls ce sl h0 k0 => lv_tableOut hx.1 hx.2.1 hd (Or.inl h1) ht (k0 ls h0)) kd
  · by_cases h2 : hi < v.toInt
    · unfold tsw
      rw [if_neg h1, List.getD_eq_getElem?_getD, List.getElem?_eq_none (by omega)]
      exact J.step hx (fun hx H locs ls ce sl h0 k0 => lv_tableOut hx.1 hx.2.1 hd (Or.inr h2) ht (k0 ls h0)) kd
    · have hlt : (v.toInt - lo).toNat < offs.toList.length := by omega
      obtain ⟨K, e1, t, e2, k⟩ := kl.get _ _ (List.getElem?_eq_getElem hlt)
      unfold tsw
      rw [if_neg h1, List.getD_eq_getElem?_getD, e1]
      exact J.step hx (fun hx H locs ls ce sl h0 k0 => lv_tableIn hx.1 hx.2.1 hd h1 h2 (by rw [← Array.getElem?_toList]; exact List.getElem?_eq_getElem hlt) e2 (k0 ls h0)) k
/-! the way into a method -/
theorem M1.of {l : Launch} {w : Wd} {mi : Mi} {d : Nat} {own : String} {av : List Value} {h h' : Hp} {res : Option Value} {ρ : Type} {K : Option ρ} {T : Cx → ρ → Prop} {r : ρ} (hK : K = some r) (hy : plainName mi.1.cls = true) (hown : mi.1.cls = own) (hlen : (lg_sl av).length ≤ mi.2.2.1)
    (body : ∀ x : Cx, On x mi.2.1 own d → x.2.2.1.1.1 = mi.2.2.1 → x.2.2.1.2.2 = h' → x.1.2.1 = l → x.2.2.2 = w → x.2.2.1.1.2.2.2.2.1 = mi.2.2.2 → x.2.2.1.1.2.2.2.2.2 = mi.1.name →
      x.2.1.2.2.2.2 = MQ x.2.1.2.1 (qcM w res h') x.2.1.1 x.1.2.2.2.2.1 (hpN h' - hpN h) (hpM h' - hpM h) (wArea w) → x.2.2.1.2.1 = h → J x 0 (lv_args 0 av) [] h K (T x) ∧ T x r) : M1 l w mi d av h h' res := by
  obtain ⟨y, bytes, maxL, ret⟩ := mi
  dsimp only at hy hown hlen body
  refine ⟨fun ⟨z⟩ => ?_, ?_⟩
  · obtain ⟨hJ, hT⟩ := body ((z.1.1, l, z.1.2.2), (z.2.1.1, z.2.1.2.1, z.2.1.2.2.1, z.2.1.2.2.2.1, MQ z.2.1.2.1 (qcM w res h') z.2.1.1 z.1.2.2.2.2.1 (hpN h' - hpN h) (hpM h' - hpM h) (wArea w)), ((maxL, bytes, own, d, ret, y.name), h, h'), w) ⟨rfl, rfl, rfl⟩ rfl rfl rfl rfl rfl rfl rfl rfl
    exact (hJ r hK hT).1
  · refine Met.ofW (cc := bytes) (maxL := maxL) (ret := ret) hy rfl ?_
    intro p e s m args below meth c s₁ B hml hv
    obtain ⟨rfl, hP, hkk, hro⟩ := hv
    have hts := atoms_spec (ws := wsM (y, bytes, maxL, ret)) B.pre
    have hown2 : s.vm.findClass own = some m.cls := by rw [← hown]; exact findClass_of_methodNamed B.named
    have hbase : wBase w ≤ s.heap.size := by have := hP.1; have := hP.2.1; omega
    obtain ⟨hJ, hT⟩ := body ((p, l, e, (headSpec (wsM (y, bytes, maxL, ret)) (rmM d h h')).room, s, m), (av.toArray, below, meth, c, MQ below (qcM w res h') av.toArray s (hpN h' - hpN h) (hpM h' - hpM h) (wArea w)), ((maxL, bytes, own, d, ret, y.name), h, h'), w) ⟨rfl, rfl, rfl⟩ rfl rfl rfl rfl rfl rfl rfl rfl
    obtain ⟨a1, a2⟩ := hJ r hK hT
    have hl := lv_entry av (n := maxL) hlen
    rw [lg_entry_eq]
    have a3 := a2 ⟨B.exec, B.bytes, hml, hown2, fun c hc => hts c (List.mem_cons_of_mem _ hc), B.notSynchronized, hkk, ⟨B.returns, (name_of_methodNamed B.named B.method).1⟩, ⟨Nat.le_refl d, Nat.le_refl (64 * d), Nat.le_refl _, Nat.le_refl _⟩, hbase, hro⟩ s.heap [] _ hl hP va_S.rf hLe.rf
    dsimp only at a3
    rw [Nat.sub_self, Nat.sub_self] at a3
    exact a3
/-! the way out -/
theorem j_iret (hx : On x cc own d) {w : Wd} {h0 h' : Hp} {res : Option Value} {v : Int32} (hw : x.2.2.2 = w) (h0e : x.2.2.1.2.1 = h0) (hfe : x.2.2.1.2.2 = h') (hr : x.2.2.1.1.2.2.2.2.1 = some .int) (hQ : x.2.1.2.2.2.2 = MQ x.2.1.2.1 (qcM w res h') x.2.1.1 x.1.2.2.2.2.1 (hpN h' - hpN h0) (hpM h' - hpM h0) (wArea w))
    (hd : decode cc pc = .ok (.ireturn, 1)) {r : ρ} (ht : T r → h = h' ∧ res = some (.int v)) : J x pc lv [.int v] h (some r) T := by
  intro r' hr' hT
  have hr' : r = r' := Option.some.inj hr'
  subst hr'
  obtain ⟨rfl, rfl⟩ := ht hT
  refine ⟨by rw [hfe]; exact hLe.rf, fun hok H locs ls hl hP hS hh => ?_⟩
  obtain ⟨rfl, rfl, rfl⟩ := hx
  have hx := hok
  rw [hQ, h0e]
  subst hw
  have hlocks := hx.2.2.2.2.2.1
  have hr := hx.2.2.2.2.2.2.2.1.1.trans hr
  exact W.iret hx.1 hx.2.1 hr (fun t ht hW => ⟨rfl, by rw [ht]; exact hP, hS.F ht⟩) hS.2.2 hd hlocks
theorem j_zret (hx : On x cc own d) {w : Wd} {h0 h' : Hp} {res : Option Value} {v : Int32} (hw : x.2.2.2 = w) (h0e : x.2.2.1.2.1 = h0) (hfe : x.2.2.1.2.2 = h') (hr : x.2.2.1.1.2.2.2.2.1 = some .boolean) (hQ : x.2.1.2.2.2.2 = MQ x.2.1.2.1 (qcM w res h') x.2.1.1 x.1.2.2.2.2.1 (hpN h' - hpN h0) (hpM h' - hpM h0) (wArea w))
    (hd : decode cc pc = .ok (.ireturn, 1)) {K : Int32 → Option ρ} {r : ρ} (hK : K v = some r) (ht : T r → h = h' ∧ res = some (.int v)) : J x pc lv [.int v] h ((z01 v).bind K) T := by
  intro r' hr' hT
  by_cases hz : v = 0 ∨ v = 1
  · rw [show z01 v = some v from if_pos hz] at hr'
    have hr' : r = r' := Option.some.inj (hK.symm.trans hr')
    subst hr'
    obtain ⟨rfl, rfl⟩ := ht hT
    refine ⟨by rw [hfe]; exact hLe.rf, fun hok H locs ls hl hP hS hh => ?_⟩
    obtain ⟨rfl, rfl, rfl⟩ := hx
    have hx := hok
    rw [hQ, h0e]
    subst hw
    have hlocks := hx.2.2.2.2.2.1
    have hr := hx.2.2.2.2.2.2.2.1.1.trans hr
    exact W.zret hx.1 hx.2.1 hr (nar_z hz) (fun t ht hW => ⟨rfl, by rw [ht]; exact hP, hS.F ht⟩) hS.2.2 hd hlocks
  · rw [show z01 v = none from if_neg hz] at hr'; cases hr'
theorem j_lret (hx : On x cc own d) {w : Wd} {h0 h' : Hp} {res : Option Value} {v : Int64} (hw : x.2.2.2 = w) (h0e : x.2.2.1.2.1 = h0) (hfe : x.2.2.1.2.2 = h') (hr : x.2.2.1.1.2.2.2.2.1 = some .long) (hQ : x.2.1.2.2.2.2 = MQ x.2.1.2.1 (qcM w res h') x.2.1.1 x.1.2.2.2.2.1 (hpN h' - hpN h0) (hpM h' - hpM h0) (wArea w))
    (hd : decode cc pc = .ok (.lreturn, 1)) {r : ρ} (ht : T r → h = h' ∧ res = some (.long v)) : J x pc lv [.long v] h (some r) T := by
  intro r' hr' hT
  have hr' : r = r' := Option.some.inj hr'
  subst hr'
  obtain ⟨rfl, rfl⟩ := ht hT
  refine ⟨by rw [hfe]; exact hLe.rf, fun hok H locs ls hl hP hS hh => ?_⟩
  obtain ⟨rfl, rfl, rfl⟩ := hx
  have hx := hok
  rw [hQ, h0e]
  subst hw
  have hlocks := hx.2.2.2.2.2.1
  have hr := hx.2.2.2.2.2.2.2.1.1.trans hr
  exact W.lret hx.1 hx.2.1 hr (fun t ht hW => ⟨rfl, by rw [ht]; exact hP, hS.F ht⟩) hS.2.2 hd hlocks
theorem j_vret (hx : On x cc own d) {w : Wd} {h0 h' : Hp} {res : Option Value} (hw : x.2.2.2 = w) (h0e : x.2.2.1.2.1 = h0) (hfe : x.2.2.1.2.2 = h') (hr : x.2.2.1.1.2.2.2.2.1 = none) (hQ : x.2.1.2.2.2.2 = MQ x.2.1.2.1 (qcM w res h') x.2.1.1 x.1.2.2.2.2.1 (hpN h' - hpN h0) (hpM h' - hpM h0) (wArea w))
    (hd : decode cc pc = .ok (.return_, 1)) {r : ρ} (ht : T r → h = h' ∧ res = none) : J x pc lv [] h (some r) T := by
  intro r' hr' hT
  have hr' : r = r' := Option.some.inj hr'
  subst hr'
  obtain ⟨rfl, rfl⟩ := ht hT
  refine ⟨by rw [hfe]; exact hLe.rf, fun hok H locs ls hl hP hS hh => ?_⟩
  obtain ⟨rfl, rfl, rfl⟩ := hx
  have hx := hok
  rw [hQ, h0e]
  subst hw
  have hlocks := hx.2.2.2.2.2.1
  have hr := hx.2.2.2.2.2.2.2.1.1.trans hr
  exact W.vret hx.1 hx.2.1 hr (fun t ht hW => ⟨rfl, by rw [ht]; exact hP, hS.F ht⟩) hS.2.2 hd hlocks
theorem j_aret (hx : On x cc own d) {w : Wd} {h0 h' : Hp} {res : Option Value} {a : Nat} {C : FieldType} (hw : x.2.2.2 = w) (h0e : x.2.2.1.2.1 = h0) (hfe : x.2.2.1.2.2 = h') (hr : x.2.2.1.1.2.2.2.2.1 = some C) (hC : (∃ n, C = .object n) ∨ ∃ t, C = .array t) (hQ : x.2.1.2.2.2.2 = MQ x.2.1.2.1 (qcM w res h') x.2.1.1 x.1.2.2.2.2.1 (hpN h' - hpN h0) (hpM h' - hpM h0) (wArea w))
    (hd : decode cc pc = .ok (.areturn, 1)) {r : ρ} (ht : T r → h = h' ∧ res = some (vR w a)) : J x pc lv [vR x.2.2.2 a] h (some r) T := by
  intro r' hr' hT
  have hr' : r = r' := Option.some.inj hr'
  subst hr'
  obtain ⟨rfl, rfl⟩ := ht hT
  refine ⟨by rw [hfe]; exact hLe.rf, fun hok H locs ls hl hP hS hh => ?_⟩
  obtain ⟨rfl, rfl, rfl⟩ := hx
  have hx := hok
  rw [hQ, h0e]
  subst hw
  have hlocks := hx.2.2.2.2.2.1
  have hr := hx.2.2.2.2.2.2.2.1.1.trans hr
  exact W.aret hx.1 hx.2.1 hr hC (by unfold vR; split; exact Or.inl rfl; exact Or.inr ⟨_, rfl⟩) (fun t ht hW => ⟨rfl, by rw [ht]; exact hP, hS.F ht⟩) hS.2.2 hd hlocks
end FR
