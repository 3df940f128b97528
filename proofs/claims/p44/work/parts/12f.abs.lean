/-! Math.abs of a double: the library's own way, none a NaN -/
section VBD
variable {p : Program} {l : Launch} {e : Env} {R : Room} {s : State} {m : MethodId} {args : Array Value} {below : List Frame} {meth : Method} {c : Code} {H : Heap} {locs : List Loc} {cells slots : Nat} {Q : State → Prop}
variable {pc : Nat} {ls : Array Slot} {rest : List Value}
theorem vb_absD {cc : ByteArray} (hexec : p.tables.exec = Jvm.exec) (hb : c.code = cc) (hml : c.maxLocals = ls.size) {own : String} {index : Nat} (hown : s.vm.findClass own = some m.cls)
    (hlink : (Cond.methodLink own index Jvm.Free.Fl.Abs.absDN).before args s = true) (hstat : (Cond.static Jvm.Free.Fl.Abs.absDN).before args s = true) (hini : (Cond.initialized "java/lang/Math").before args s = true) (hcode : (Cond.code Jvm.Free.Fl.Abs.absDN Jvm.Free.Fl.Abs.absDCode 2 (some .double)).before args s = true)
    (hframes : 1 ≤ R.frames) (hlocals : (rest.map fun v => v.category).sum + 13 ≤ R.locals) (hc : cells ≤ R.cells) (hs : slots ≤ R.slots) {x : UInt64} (hx : x &&& 0x7fffffffffffffff ≤ 0x7ff0000000000000) (hdg : decode cc pc = .ok (.invokestatic index, 3))
    (kk : W p l e R s m args below meth c H locs cells slots Q (F0 m (pc + 3) ls (.double (x &&& 0x7fffffffffffffff) :: rest))) : W p l e R s m args below meth c H locs cells slots Q (F0 m pc ls (.double x :: rest)) := by
  intro T hT X
  obtain ⟨mk, hnamed⟩ := Cond.code_named hcode
  obtain ⟨methS, cS, hmethS, -, -, -, -, -, -, hsigS⟩ := Cond.code_spec hnamed hcode
  have hK := Jvm.Free.Fl.Abs.absD_pays (l := l) (R := R) (p := p) (e := e) (below := below) (s := s) (sargs := args) (len := 3) (W := (rest.map fun v => v.category).sum) x hcode hframes hlocals
  obtain ⟨v, vm₁, B, hW, X', ⟨hv, hB⟩, st⟩ := X.staticBack hexec hown hlink hstat hini hnamed hmethS hsigS (by decide) hK (g := F0 m pc ls (.double x :: rest)) rfl (by rw [hml]) (Steps.refl _) (argsL := [.double x]) (rest := rest)
    (fun sig hsig => by
      have h2 : parseMethodDescriptor Jvm.Free.Fl.Abs.absDN.desc = some ⟨[.double], some .double⟩ := by decide +kernel
      rw [h2] at hsig; rw [← Option.some.inj hsig]; rfl)
    rfl (by show 2 * 0 + _ ≤ _; omega) (by rw [hb]; exact hdg) (fun vm₁ _ => ⟨hc, hs, rfl, hx⟩)
  subst hv
  subst hB
  obtain ⟨t, a1, b1⟩ := kk (T.setVm vm₁) hT X'
  exact ⟨t, st.trans a1, b1⟩
end VBD
section WRD
variable {x : Cx} {cc : ByteArray} {own : String} {d pc q : Nat} {lv lv' : List (Nat × Value)} {st : List Value} {h : Hp} {ρ : Type} {T : ρ → Prop}
def dabs (a : UInt64) : Option UInt64 := if a &&& 0x7fffffffffffffff ≤ 0x7ff0000000000000 then some (a &&& 0x7fffffffffffffff) else none
theorem w_dabs (hx : On x cc own d) {i : Nat} {a : UInt64} (hd : decode cc pc = .ok (.invokestatic i, 3)) (hl : Cond.methodLink own i ⟨"java/lang/Math", "abs", "(D)D"⟩ ∈ TB) (hs : Cond.static ⟨"java/lang/Math", "abs", "(D)D"⟩ ∈ TB) (hi : Cond.initialized "java/lang/Math" ∈ TB) (hc : Cond.code ⟨"java/lang/Math", "abs", "(D)D"⟩ dabsC 2 (some .double) ∈ TB) (h1 : 1 ≤ d) (hst : (st.map fun v => v.category).sum ≤ 8) (hq : pc + 3 = q)
    {K : UInt64 → Option ρ} (kk : ∀ v, J x q lv (.double v :: st) h (K v) T) : J x pc lv (.double a :: st) h ((dabs a).bind K) T := by
  subst hq
  by_cases hz : a &&& 0x7fffffffffffffff ≤ 0x7ff0000000000000
  · rw [show dabs a = some (a &&& 0x7fffffffffffffff) from if_pos hz]
    intro r hr ht
    obtain ⟨a1, a2⟩ := kk (a &&& 0x7fffffffffffffff) r hr ht
    obtain ⟨rfl, rfl, rfl⟩ := hx
    refine ⟨a1, fun hok H locs ls hl2 hP hS hh => ?_⟩
    obtain ⟨r1, r2, r3, r4⟩ := hok.2.2.2.2.2.2.2.2.1
    have l1 := hh.1
    have l2 := hh.2
    have l3 := a1.1
    have l4 := a1.2
    exact vb_absD hok.1 hok.2.1 (hok.2.2.1.trans hl2.1.symm) hok.2.2.2.1 (hok.2.2.2.2.1 _ hl) (hok.2.2.2.2.1 _ hs) (hok.2.2.2.2.1 _ hi) (hok.2.2.2.2.1 _ hc) (by omega) (by omega) (by omega) (by omega) hz hd (a2 hok H locs ls hl2 hP hS hh)
  · rw [show dabs a = none from if_neg hz]; intro r hr; cases hr
end WRD
