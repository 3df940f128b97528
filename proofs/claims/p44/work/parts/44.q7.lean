section Q7
variable {σ : Sg} {I I' : Nat → Nat → Int32} {L L' : Nat → Nat → Int64}
theorem CR.itB {T N : Nat → Nat} (h : CR σ I L T N) {k : Nat} (hk' : k < N 18) : I (gsa σ + 1) k = nI (it N k 0) ∧ I (gsa σ + 2) k = nI (it N k 2) ∧ I (gsa σ + 3) k = nI (it N k 3) ∧ I (gsa σ + 4) k = nI (it N k 1) ∧ I (gsa σ + 5) k = nI (it N k 4) ∧ I (gsa σ + 6) k = nI (it N k 5) := h.2.2.2.2.2 k hk'
/-- what is left of a world when it must let a set of COUNTS stand -/
def tg (T N : Nat → Nat) (X n w : Nat) : Bool := lft T N w && allB (fun c => !X.testBit c || won T (it N c 0) w) n
theorem tg_s {T N : Nat → Nat} {X n w : Nat} : tg T N X (n + 1) w = (tg T N X n w && (!X.testBit n || won T (it N n 0) w)) := by
  unfold tg
  show (lft T N w && (allB (fun c => !X.testBit c || won T (it N c 0) w) n && (!X.testBit n || won T (it N n 0) w))) = _
  rw [Bool.and_assoc]
theorem tg_no {T N : Nat → Nat} {X w : Nat} : ∀ {n m : Nat}, n ≤ m → tg T N X n w = false → tg T N X m w = false := by
  intro n m hnm h
  obtain ⟨d, rfl⟩ := Nat.le.dest hnm
  induction d with
  | zero => exact h
  | succ d ih => rw [show n + (d + 1) = (n + d) + 1 from rfl, tg_s, ih (by omega)]; rfl
end Q7
