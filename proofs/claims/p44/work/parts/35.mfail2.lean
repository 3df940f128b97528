section MF2
variable {σ : Sg} {I : Nat → Nat → Int32} {L : Nat → Nat → Int64}
/-- the reference's rows of what is told and now, and its tables -/
def MI (I : Nat → Nat → Int32) (T N : Nat → Nat) : Prop := rT I T ∧ rN I N ∧ WT T ∧ WN T N ∧ mTab I T N
theorem WN.bkH {T N : Nat → Nat} (hW : WT T) (h : WN T N) : bkH N := by
  obtain ⟨_, _, h17, h18, hk', _⟩ := h
  have h256 := ev_lt hW.1.2.1
  refine ⟨h18.2, fun o ho => ?_, fun k o h1 h2 => ?_⟩
  · obtain ⟨_, a1, _, _, a4, _⟩ := hk' o ho
    omega
  · by_cases e : k = o
    · subst e; exact Nat.le_refl _
    · exact (hk' o h2).2.2.2.2.2.2.2.2.2.2.2 k (by omega)
theorem MI.up {T N : Nat → Nat} {a : Nat} {r : Nat → Int32} (h : MI I T N) (h1 : a ≠ 434) (h2 : a ≠ 438) (h3 : a < 444 ∨ 447 < a) : MI (rowUp I a r) T N := by
  obtain ⟨m1, m2, m3, m4, m5, m6, m7, m8⟩ := h
  refine ⟨fun i hi => ?_, fun i hi => ?_, m3, m4, ?_, fun e he => ?_, fun k hk' => ?_, ?_⟩
  · rw [rowUp_at, if_neg (fun e => h1 e.symm)]; exact m1 i hi
  · rw [rowUp_at, if_neg (fun e => h2 e.symm)]; exact m2 i hi
  · rw [rowUp_at, if_neg (by omega)]; exact m5
  · rw [rowUp_at, if_neg (by omega)]; exact m6 e he
  · rw [rowUp_at, if_neg (by omega)]; exact m7 k hk'
  · rw [rowUp_at, if_neg (by omega)]; exact m8
theorem lft_lt {T N : Nat → Nat} {w : Nat} (h : lft T N w = true) : w < 2 ^ T 1 := agr_lt h
theorem c_1 {α : Type} {i : Nat} {A B : α} (hi : i < 2 ^ 31) : (if nI i = 1 then A else B) = (if i = 1 then A else B) := c_eqd (n := 1) hi (by omega)
theorem bI_if0 {α : Type} (b : Bool) (A B : α) : (if bI b = 0 then A else B) = if b = false then A else B := by cases b <;> rfl
end MF2
