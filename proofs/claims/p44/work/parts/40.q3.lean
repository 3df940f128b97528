section Q3
variable {σ : Sg} {I I' : Nat → Nat → Int32} {L L' : Nat → Nat → Int64}
theorem pleasOf_ok {T N : Nat → Nat} (h : CR σ I L T N) {b : Nat} (hb : b < T 2) : mX1_pleasOf (gla σ) (nI b) (hk σ I L) = some (nI (cntB (plq T b) (T 4))) := by
  obtain ⟨⟨hla, hsa, hSO⟩, hW, hN, hL, hSt⟩ := id h
  obtain ⟨w0, w1, w2, w3, w4, w5, w6, w7⟩ := hW.1
  have h0 : (hpS (hk σ I L) (gla σ)).1 = 2 := by rw [hpS_hk, SH_la0 hla]
  have e4 := hL.1.2.2.2.1
  unfold mX1_pleasOf mX1_pleasOf_l4
  rw [if_pos h0]
  refine lp_traj (f := fun s : Int32 × Int32 => mX1_pleasOf_l4f (gla σ) (nI b) (hk σ I L) s.1 s.2) (T 4) (fun p => (nI (cntB (plq T b) p), nI p)) _ (fun p hp => ?_) ?_
  · show mX1_pleasOf_l4f (gla σ) (nI b) (hk σ I L) (nI (cntB (plq T b) p)) (nI p) = _
    have h1 := (hW.2.2.2.1 p hp).1
    unfold mX1_pleasOf_l4f mX1_pleasOf_b30
    rw [gI_la hla, obind, e4, c_lt hp (by omega), gR_la hla, obind, RF_la_9 σ hla, at_r (SH_la4 hla) (by omega) (by omega), obind, (hL.2.2.2.1 p hp).1, c_eqd (by omega) (by omega), nI_1, nI_1, i0, nI_add]
    simp only [cntB]
    by_cases hq : T (66 + p) = b
    · have hq' : plq T b p = true := decide_eq_true hq
      rw [if_pos hq, hq']; rfl
    · have hq' : plq T b p = false := decide_eq_false hq
      rw [if_neg hq, hq']; rfl
  · show mX1_pleasOf_l4f (gla σ) (nI b) (hk σ I L) (nI (cntB (plq T b) (T 4))) (nI (T 4)) = _
    unfold mX1_pleasOf_l4f
    rw [gI_la hla, obind, e4, c_nlt (Nat.le_refl _) (by omega), xts]
theorem lsw_cases (y : Int32) : y = 0 ∨ y = 1 ∨ (¬ y.toInt = 0 ∧ ¬ y.toInt = 1 ∧ ¬ y = 0 ∧ ¬ y = 1) := by
  by_cases h0 : y = 0
  · exact Or.inl h0
  · by_cases h1 : y = 1
    · exact Or.inr (Or.inl h1)
    · refine Or.inr (Or.inr ⟨fun e => h0 (Int32.toInt_inj.mp e), fun e => h1 (Int32.toInt_inj.mp e), h0, h1⟩)
theorem lsw0 {α : Type} (a b d : α) : lsw 0 [(0, a), (1, b)] d = a := rfl
theorem lsw1 {α : Type} (a b d : α) : lsw 1 [(0, a), (1, b)] d = b := rfl
theorem lswN {α : Type} {y : Int32} (h0 : ¬ y.toInt = 0) (h1 : ¬ y.toInt = 1) (a b d : α) : lsw y [(0, a), (1, b)] d = d := by
  unfold lsw; rw [if_neg h0]; unfold lsw; rw [if_neg h1]; rfl
end Q3
