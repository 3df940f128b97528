section Undo
variable {σ : Sg} {I I' J I1 I2 I3 Ja : Nat → Nat → Int32} {L L' L1 L2 : Nat → Nat → Int64} {T N N' M : Nat → Nat} {a a' : Nat} {P P' : Nat → Nat → Nat} {K : Nat → Bool} {Q : Nat → Nat → Nat}
/-- a state from elsewhere comes in -/
theorem act_in (h : BI σ I L T N a P K Q) (hEX : EX T N') (hHC : HC I1 a' P') (c1 : CSt I1 (gsa σ) N') (if1 : ∀ x, (x < 285 ∨ x = 286 ∨ x = 287 ∨ 400 ≤ x) → (x < gsa σ ∨ gsa σ + 7 ≤ x) → I1 x = I x) (i5 : ∀ k, k ≠ 3 → k ≠ 4 → I1 285 k = I 285 k)
    (mHM : HM I2 a' P') (mN : rN I2 N') (mK : Rm (I2 447) 0 (lft T N')) (mf : ∀ x, x ≠ 433 → x ≠ 438 → x ≠ 439 → x ≠ 447 → I2 x = I1 x) (m3 : ∀ k, k ≠ 8 → I2 433 k = I1 433 k) (hP' : ∀ j, j < a' → EX T (P' j)) :
    BI σ I2 L T N' a' P' K Q ∧ Fr0 I L I2 L := by
  have hsa := h.1.1.2.1
  have p1 := h.2.2.2.1.1
  have g1 : 268 ≤ gsa σ := by unfold isSt at hsa; omega
  have g2 : gsa σ + 7 ≤ 282 := by unfold isSt at hsa; omega
  obtain ⟨Ja, hJa⟩ : ∃ Ja : Nat → Nat → Int32, Ja = fun x => if gsa σ ≤ x ∧ x < gsa σ + 7 then I x else I1 x := ⟨_, rfl⟩
  have jo : ∀ x, (x < gsa σ ∨ gsa σ + 7 ≤ x) → Ja x = I1 x := fun x hx => by rw [hJa]; exact if_neg (by omega)
  refine act_done h hEX (Ja := Ja) (hHC.fr (by rw [jo 285 (by omega)]) (by rw [jo 285 (by omega)]) (fun x a b => jo x (by omega))) (fun x hx => ?_) (fun k k3 k4 => by rw [jo 285 (by omega), i5 k k3 k4]) c1 (fun x hx => (jo x hx).symm) (fun _ _ => rfl) mHM mN mK mf m3 hP'
  by_cases e : gsa σ ≤ x ∧ x < gsa σ + 7
  · rw [hJa]; exact if_pos e
  · rw [jo x (by omega)]; exact if1 x hx (by omega)
end Undo
