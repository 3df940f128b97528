section QDuel
variable {σ : Sg} {I I' J I1 I2 : Nat → Nat → Int32} {L L' L1 L2 : Nat → Nat → Int64}
theorem n1_nlt {y : Nat} (h : y < 2) : ¬ (1 : Int32) < nI y := by
  rcases (show y = 0 ∨ y = 1 by omega) with rfl | rfl <;> decide
theorem n2_nlt {y : Nat} (h : y < 3) : ¬ (2 : Int32) < nI y := by
  rcases (show y = 0 ∨ y = 1 ∨ y = 2 by omega) with rfl | rfl | rfl <;> decide
theorem lv_root {T N : Nat → Nat} (hN : WN T N) : lv T N 0 = true := by
  unfold lv
  rw [cn_0]
  refine decide_eq_true fun z => ?_
  rw [cntB_0] at z
  rw [hN.any] at z
  cases z
end QDuel
