section R2
variable {x : Cx} {cc : ByteArray} {own : String} {d pc q : Nat} {lv lv' : List (Nat × Value)} {st : List Value} {h : Hp} {ρ : Type} {K : Option ρ} {T : ρ → Prop}
theorem j_i2b (hx : On x cc own d) {a : Int32} (hd : decode cc pc = .ok (.i2b, 1)) (hq : pc + 1 = q) (kk : J x q lv (.int a.toInt8.toInt32 :: st) h K T) : J x pc lv (.int a :: st) h K T :=
  J.step hx (fun hx H locs ls ce sl h0 k0 => lv_i2b hx.1 hx.2.1 hd rfl (hq ▸ k0 ls h0)) kk
/-- the law's own end, with 1 -/
abbrev Lw (x : Cx) (u : Int32 × Hp) : Prop := u.1 = 1 ∧ x.2.2.1.2.2 = u.2 ∧ ∀ (H : Heap) (locs : List Loc) (ls : Array Slot) (pc : Nat), decode x.2.2.1.1.2.1 pc = .ok (.ireturn, 1) → Ok x x.2.2.1.1.2.1 x.2.2.1.1.2.2.1 x.2.2.1.1.2.2.2.1 → va_S (wArea x.2.2.2) x.1.2.2.2.2.1.heap H locs →
  W x.1.1 x.1.2.1 x.1.2.2.1 x.1.2.2.2.1 x.1.2.2.2.2.1 x.1.2.2.2.2.2 x.2.1.1 x.2.1.2.1 x.2.1.2.2.1 x.2.1.2.2.2.1 H locs (hpN u.2 - hpN x.2.2.1.2.1) (hpM u.2 - hpM x.2.2.1.2.1) x.2.1.2.2.2.2 (F0 x.1.2.2.2.2.2 pc ls [.int 1])
theorem r_law (hx : On x cc own d) {u : Int32 × Hp} {v : Int32} (R : Lw x u) (hd : decode cc pc = .ok (.ireturn, 1)) : J x pc lv [.int v] h (some (v, h)) (fun r => r = u) := by
  intro r hr ht
  obtain ⟨rfl, rfl, rfl⟩ := hx
  have hr : (v, h) = r := Option.some.inj hr
  subst hr
  subst ht
  obtain ⟨h1, h2, h3⟩ := R
  have h1 : v = 1 := h1
  have h2 : x.2.2.1.2.2 = h := h2
  subst h1
  refine ⟨by rw [h2]; exact hLe.rf, fun hok H locs ls hl hP hS hh => h3 H locs ls pc hd hok hS⟩
end R2
