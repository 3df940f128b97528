section MT2
variable {σ : Sg} {I : Nat → Nat → Int32} {L : Nat → Nat → Int64}
/-- as far as worlds below w, of EXPRs below e there, of COUNTS below k -/
def tabS (T : Nat → Nat) (c t q : Nat → Int32) (w e k : Nat) (d : Bool) : Prop :=
  (∀ v, v < 256 → mw c 0 v = ((decide (v < w) || (d && decide (v = w))) && may T v)) ∧
  (∀ x, x < T 6 → ∀ v, v < 256 → mw t x v = ((decide (v < w) || decide (v = w ∧ x < e)) && ev T x v)) ∧
  (∀ x, x < T 2 → ∀ v, v < 256 → mw q x v = ((decide (v < w) || decide (v = w ∧ x < k)) && won T x v))
end MT2
