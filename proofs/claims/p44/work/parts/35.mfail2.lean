section MF2
variable {σ : Sg} {I : Nat → Nat → Int32} {L : Nat → Nat → Int64}
theorem WN.bkH {T N : Nat → Nat} (hW : WT T) (h : WN T N) : bkH N := by
  obtain ⟨_, _, h17, h18, hk', _⟩ := h
  have h256 := ev_lt hW.1.2.1
  refine ⟨h18.2, fun o ho => ?_, fun k o h1 h2 => ?_⟩
  · obtain ⟨_, a1, _, _, a4, _⟩ := hk' o ho
    omega
  · by_cases e : k = o
    · subst e; exact Nat.le_refl _
    · exact (hk' o h2).2.2.2.2.2.2.2.2.2.2.2 k (by omega)
theorem lft_lt {T N : Nat → Nat} {w : Nat} (h : lft T N w = true) : w < 2 ^ T 1 := agr_lt h
theorem c_1 {α : Type} {i : Nat} {A B : α} (hi : i < 2 ^ 31) : (if nI i = 1 then A else B) = (if i = 1 then A else B) := c_eqd (n := 1) hi (by omega)
theorem bI_if0 {α : Type} (b : Bool) (A B : α) : (if bI b = 0 then A else B) = if b = false then A else B := by cases b <;> rfl
end MF2
