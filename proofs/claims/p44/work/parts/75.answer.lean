section Answer
variable {σ : Sg} {I I' J I1 I2 Ja : Nat → Nat → Int32} {L L' L1 L2 : Nat → Nat → Int64} {T N N' : Nat → Nat} {a a' : Nat} {P P' : Nat → Nat → Nat} {K : Nat → Bool} {Q : Nat → Nat → Nat}
theorem sme_ex {f : Nat} {so : Bool} (h : sme T N f so = true) : ∃ w, w < 256 ∧ lft T N w = true ∧ (w.testBit f == so) = true := by
  unfold sme at h
  obtain ⟨w, h1, h2⟩ := anyB_iff.mp h
  rw [Bool.and_eq_true] at h2
  exact ⟨w, h1, h2.1, h2.2⟩
end Answer
