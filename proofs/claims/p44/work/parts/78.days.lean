section Days
variable {σ : Sg} {I I' J I1 I2 I3 Ja : Nat → Nat → Int32} {L L' L1 L2 : Nat → Nat → Int64} {T N N' M : Nat → Nat} {a a' : Nat} {P P' : Nat → Nat → Nat} {K : Nat → Bool} {Q : Nat → Nat → Nat}
theorem knF_hi (h : ∀ i, i < 16 → N' i = N i) : knF N' = knF N := bs_congr fun f hf => by unfold kn; rw [h f (by omega)]
theorem knS_hi (h : ∀ i, i < 16 → N' i = N i) : knS N' = knS N := bs_congr fun f hf => by unfold kn; rw [h f (by omega), h (8 + f) (by omega)]
theorem lft_hi (h : ∀ i, i < 16 → N' i = N i) : lft T N' = lft T N := by unfold lft; rw [knF_hi h, knS_hi h]
/-- a state where the facts are as they were -/
theorem CSt.hi {s : Nat} (h : CSt I s N) (hN : ∀ i, i < 16 → N' i = N i) (e0 : I' s 0 = nI (N' 17)) (e1 : I' s 1 = nI (N' 16)) (e2 : I' s 2 = nI (N' 18)) (e3 : I' s 3 = nI (bs (fun k => decide (it N' k 6 = 1)) (N' 18))) (e4 : ∀ k, 4 ≤ k → I' s k = I s k)
    (er : ∀ k, k < N' 18 → I' (s + 1) k = nI (it N' k 0) ∧ I' (s + 2) k = nI (it N' k 2) ∧ I' (s + 3) k = nI (it N' k 3) ∧ I' (s + 4) k = nI (it N' k 1) ∧ I' (s + 5) k = nI (it N' k 4) ∧ I' (s + 6) k = nI (it N' k 5)) : CSt I' s N' := by
  obtain ⟨⟨a0, a1, a2, a3, a4, a5, a6, a7, a8⟩, hb⟩ := h
  have c : ∀ v, bs (fun f => decide (N' f = v)) 8 = bs (fun f => decide (N f = v)) 8 := fun v => bs_congr fun f hf => by rw [hN f (by omega)]
  exact ⟨⟨e0, e1, e2, e3, by rw [e4 4 (by omega), a4, c], by rw [e4 5 (by omega), a5, c], by rw [e4 6 (by omega), a6, c], by rw [e4 7 (by omega), a7, c], by rw [e4 8 (by omega), a8, knS_hi hN]⟩, er⟩
end Days
