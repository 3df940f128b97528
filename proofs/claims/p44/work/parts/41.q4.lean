section Q4
variable {σ : Sg} {I I' : Nat → Nat → Int32} {L L' : Nat → Nat → Int64}
theorem agr2 {A B a b w : Nat} (ha : a &&& A = a) (hb : b &&& B = b) : (w &&& A = a ∧ w &&& B = b) ↔ (a &&& (A &&& B) = b &&& (A &&& B) ∧ w &&& (A ||| B) = a ||| b) := by
  have ea : ∀ i, a.testBit i = (a.testBit i && A.testBit i) := fun i => by conv => lhs; rw [← ha, Nat.testBit_and]
  have eb : ∀ i, b.testBit i = (b.testBit i && B.testBit i) := fun i => by conv => lhs; rw [← hb, Nat.testBit_and]
  constructor
  · rintro ⟨h1, h2⟩
    constructor
    · apply Nat.eq_of_testBit_eq; intro i
      rw [← h1, ← h2]
      simp only [Nat.testBit_and]
      cases w.testBit i <;> cases A.testBit i <;> cases B.testBit i <;> rfl
    · rw [← h1, ← h2]
      apply Nat.eq_of_testBit_eq; intro i
      simp only [Nat.testBit_and, Nat.testBit_or]
      cases w.testBit i <;> cases A.testBit i <;> cases B.testBit i <;> rfl
  · rintro ⟨h1, h2⟩
    have t1 : ∀ i, (a.testBit i && (A.testBit i && B.testBit i)) = (b.testBit i && (A.testBit i && B.testBit i)) := fun i => by
      have := congrArg (fun x => x.testBit i) h1
      simpa only [Nat.testBit_and] using this
    have t2 : ∀ i, (w.testBit i && (A.testBit i || B.testBit i)) = (a.testBit i || b.testBit i) := fun i => by
      have := congrArg (fun x => x.testBit i) h2
      simpa only [Nat.testBit_and, Nat.testBit_or] using this
    constructor
    · apply Nat.eq_of_testBit_eq; intro i
      rw [Nat.testBit_and]
      have a1 := ea i; have b1 := eb i; have c1 := t1 i; have d1 := t2 i
      revert a1 b1 c1 d1
      cases w.testBit i <;> cases A.testBit i <;> cases B.testBit i <;> cases a.testBit i <;> cases b.testBit i <;> decide
    · apply Nat.eq_of_testBit_eq; intro i
      rw [Nat.testBit_and]
      have a1 := ea i; have b1 := eb i; have c1 := t1 i; have d1 := t2 i
      revert a1 b1 c1 d1
      cases w.testBit i <;> cases A.testBit i <;> cases B.testBit i <;> cases a.testBit i <;> cases b.testBit i <;> decide
theorem nx_or_lt {a b : Nat} (ha : a < 256) (hb : b < 256) : a ||| b < 256 := Nat.or_lt_two_pow (n := 8) ha hb
theorem CR.wonR {T N : Nat → Nat} (h : CR σ I L T N) {k : Nat} (hk' : k < N 18) : isW (hk σ I L) (gla σ + 16 + 2 * (26 + it N k 0)) (gla σ + 17 + 2 * (26 + it N k 0)) ∧ Rw (L (gla σ + 17 + 2 * (26 + it N k 0))) (won T (it N k 0)) ∧ mX1_wonBy (gla σ) (nI (it N k 0)) (hk σ I L) = some (gla σ + 16 + 2 * (26 + it N k 0)) := by
  have a0 := (h.2.2.1.2.2.2.2.1 k hk').1
  have w2 := h.2.1.1.2.2.1
  exact ⟨wTab h.1.1 (by omega), (h.2.2.2.1.2.2.1 _ a0).2.2.1, wonBy_ok h.1.1 (by omega)⟩
end Q4
