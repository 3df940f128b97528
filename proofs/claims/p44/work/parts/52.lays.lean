section Lays
variable {σ : Sg} {I I' I1 I2 : Nat → Nat → Int32} {L L' L1 L2 : Nat → Nat → Int64}
def lw (T N : Nat → Nat) (k : Nat) : Nat → Bool := fun w => lft T N w && won T (it N k 0) w
/-- what the model's rows of ways hold -/
def WY (T N : Nat → Nat) (k : Nat) (r q : Nat → Int32) (lo : Nat) : Prop := ∀ x, lo ≤ x → x < 3 ^ T 1 → r x = nI (cn (lft T N) (T 1) x) ∧ q x = nI (cn (lw T N k) (T 1) x)
theorem nI_m1n {x : Nat} (h : 0 < x) : nI x + -1 = nI (x - 1) := by
  obtain ⟨y, rfl⟩ : ∃ y, x = y + 1 := ⟨x - 1, by omega⟩
  rw [show nI (y + 1) + -1 = nI (y + 1) - 1 from (Int32.sub_eq_add_neg _ _).symm, nI_pred]; rfl
theorem agw_0 (n w : Nat) : agw n 0 w = true := by
  unfold agw
  rw [allB_iff]
  intro f _
  have : dg 0 f = 0 := by unfold dg; rw [Nat.zero_div]
  rw [this]; rfl
theorem cn_0 (P : Nat → Bool) (n : Nat) : cn P n 0 = cntB P 256 := by
  unfold cn
  have : (fun w => P w && agw n 0 w) = P := by funext w; rw [agw_0, Bool.and_true]
  rw [this]
end Lays
