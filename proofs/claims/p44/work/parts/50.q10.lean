section Q10
variable {σ : Sg} {I I' I1 I2 : Nat → Nat → Int32} {L L' L1 L2 : Nat → Nat → Int64}
theorem pcd : ∀ a, a < 9 → ∀ b, b < 9 → (0 < nI a - nI b ↔ b < a) ∧ (nI a - nI b = 0 ↔ a = b) := by decide
/-- elect -/
def stE (T N : Nat → Nat) (b w : Nat) : Nat := if pc b < pc (ws T N w) then ws T N w else if pc (ws T N w) = pc b then (if ws T N w < b then ws T N w else b) else b
def inE (T N : Nat → Nat) (b w : Nat) : Prop := pc (ws T N w) < pc b ∨ (pc (ws T N w) = pc b ∧ b ≤ ws T N w)
theorem inE_1 {T N : Nat → Nat} (b w : Nat) : inE T N (stE T N b w) w := by
  unfold inE stE
  by_cases h1 : pc b < pc (ws T N w)
  · rw [if_pos h1]; exact Or.inr ⟨rfl, Nat.le_refl _⟩
  · rw [if_neg h1]
    by_cases h2 : pc (ws T N w) = pc b
    · rw [if_pos h2]
      by_cases h3 : ws T N w < b
      · rw [if_pos h3]; exact Or.inr ⟨rfl, Nat.le_refl _⟩
      · rw [if_neg h3]; exact Or.inr ⟨h2, by omega⟩
    · rw [if_neg h2]; exact Or.inl (by omega)
theorem inE_2 {T N : Nat → Nat} (b v w : Nat) (h : inE T N b v) : inE T N (stE T N b w) v := by
  unfold inE stE at *
  by_cases h1 : pc b < pc (ws T N w)
  · rw [if_pos h1]; exact Or.inl (by omega)
  · rw [if_neg h1]
    by_cases h2 : pc (ws T N w) = pc b
    · rw [if_pos h2]
      by_cases h3 : ws T N w < b
      · rw [if_pos h3]; omega
      · rw [if_neg h3]; exact h
    · rw [if_neg h2]; exact h
theorem inE_3 {T N : Nat → Nat} (b v w : Nat) (e : ws T N v = ws T N w) (h : inE T N b v) : stE T N b w = b := by
  unfold inE at h
  unfold stE
  rw [e] at h
  rw [if_neg (by omega)]
  by_cases h2 : pc (ws T N w) = pc b
  · rw [if_pos h2, if_neg (by omega)]
  · rw [if_neg h2]
theorem stE_b {T N : Nat → Nat} (h18 : N 18 ≤ 8) (p : Nat → Bool) : ∀ n, fo (stE T N) p 0 n < 256
  | 0 => by show 0 < 256; decide
  | n + 1 => by
    have ih := stE_b (T := T) h18 p n
    have b := ws_lt (T := T) h18 n
    rw [foS]
    split
    · unfold stE
      split
      · exact b
      · split
        · split
          · exact b
          · exact ih
        · exact ih
    · exact ih
end Q10
