section LackM
variable {σ : Sg} {I I' J I1 I2 : Nat → Nat → Int32} {L L' L1 L2 : Nat → Nat → Int64}
def NR (T N : Nat → Nat) (k a b : Nat) : Prop := ∀ d, a ≤ d → d < b → lok T N k d = false
theorem NR.tr {T N : Nat → Nat} {k a b c : Nat} (h : NR T N k a b) (g : NR T N k b c) : NR T N k a c := fun d h1 h2 => by
  by_cases q : d < b
  · exact h d h1 q
  · exact g d (by omega) h2
theorem NR.kv {T N : Nat → Nat} {k a b : Nat} (h : ∀ d, a ≤ d → d < b → kv (fr2 T N k) d = false) : NR T N k a b := fun d h1 h2 => by unfold lok; rw [h d h1 h2]; rfl
end LackM
