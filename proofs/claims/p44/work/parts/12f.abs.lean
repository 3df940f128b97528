section WRD
variable {x : Cx} {cc : ByteArray} {own : String} {d pc q : Nat} {lv lv' : List (Nat × Value)} {st : List Value} {h : Hp} {ρ : Type} {T : ρ → Prop}
def dabs (a : UInt64) : Option UInt64 := if a &&& 0x7fffffffffffffff ≤ 0x7ff0000000000000 then some (a &&& 0x7fffffffffffffff) else none
theorem w_dabs (hx : On x cc own d) {i : Nat} {a : UInt64} (hd : decode cc pc = .ok (.invokestatic i, 3)) (hl : Cond.methodLink own i ⟨"java/lang/Math", "abs", "(D)D"⟩ ∈ TB) (hs : Cond.static ⟨"java/lang/Math", "abs", "(D)D"⟩ ∈ TB) (hi : Cond.initialized "java/lang/Math" ∈ TB) (hc : Cond.code ⟨"java/lang/Math", "abs", "(D)D"⟩ dabsC 2 (some .double) ∈ TB) (h1 : 1 ≤ d) (hst : (st.map fun v => v.category).sum ≤ 8) (hq : pc + 3 = q)
    {K : UInt64 → Option ρ} (kk : ∀ v, J x q lv (.double v :: st) h (K v) T) : J x pc lv (.double a :: st) h ((dabs a).bind K) T := by
  sorry
end WRD
