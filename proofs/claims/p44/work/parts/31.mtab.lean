section MT2
variable {σ : Sg} {I : Nat → Nat → Int32} {L : Nat → Nat → Int64}
/-- the tables' heap -/
def tHk (σ : Sg) (I : Nat → Nat → Int32) (L : Nat → Nat → Int64) (P c t q : Nat → Int32) : Hp := hk σ (rowUp (rowUp (rowUp (rowUp I 443 P) 444 c) 445 t) 446 q) L
/-- as far as worlds below w, of EXPRs below e there, of COUNTS below k -/
def tabS (T : Nat → Nat) (c t q : Nat → Int32) (w e k : Nat) (d : Bool) : Prop :=
  (∀ v, v < 256 → mw c 0 v = ((decide (v < w) || (d && decide (v = w))) && may T v)) ∧
  (∀ x, x < T 6 → ∀ v, v < 256 → mw t x v = ((decide (v < w) || decide (v = w ∧ x < e)) && ev T x v)) ∧
  (∀ x, x < T 2 → ∀ v, v < 256 → mw q x v = ((decide (v < w) || decide (v = w ∧ x < k)) && won T x v))
theorem tHk_P {P P' c t q : Nat → Int32} : hk σ (rowUp (rowUp (rowUp (rowUp (rowUp I 443 P) 444 c) 445 t) 446 q) 443 P') L = tHk σ I L P' c t q := by
  unfold tHk
  simp (disch := omega) only [rowUp_sw, rowUp_two, Nat.add_zero]
/-- what the tables are when they are laid -/
def mTab (I : Nat → Nat → Int32) (T N : Nat → Nat) : Prop :=
  Rm (I 444) 0 (poss T) ∧ (∀ e, e < T 6 → Rm (I 445) e (fun w => decide (w < 2 ^ T 1) && ev T e w)) ∧ (∀ k, k < T 2 → Rm (I 446) k (fun w => decide (w < 2 ^ T 1) && won T k w)) ∧ Rm (I 447) 0 (lft T N)
end MT2
