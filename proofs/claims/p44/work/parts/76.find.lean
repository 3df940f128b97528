section Find
variable {σ : Sg} {I I' J I1 I2 Ja : Nat → Nat → Int32} {L L' L1 L2 : Nat → Nat → Int64} {T N N' : Nat → Nat} {a a' : Nat} {P P' : Nat → Nat → Nat} {K : Nat → Bool} {Q : Nat → Nat → Nat}
theorem gHist : gR 11 8 100 (hk σ I L) = some 285 := rfl
theorem up415 (r : Nat → Int64) : ∀ x, x ≠ 415 → rowUp L 415 r x = L x := fun x hx => rowUp_ne _ _ hx
theorem EX.make {f how so : Nat} (hW : WT T) (h : EX T N) (hf : f < T 1) (hh : how = 1 ∨ how = 4) (hk' : kn N f = false) (hs : so ≤ 1) (h4 : N 16 = 0 → how ≠ 4) (hs' : sme T N f (decide (so = 1)) = true) : EX T (mkn N f how so) := by
  have w1 := hW.1.2.1
  obtain ⟨w, hw, hl, hb⟩ := sme_ex hs'
  refine ⟨h.1.make hW hf (by omega) hs (fun _ => hh) ⟨w, hw, by rw [lft_new (by omega) hh hk', hl, hb]; rfl⟩, fun hc g hg => ?_⟩
  rw [mkn_hi (by omega) (by omega)] at hc
  rw [mkn_lo (by omega) hg]
  split
  · exact h4 hc
  · exact h.2 hc g hg
theorem EX.off {f how : Nat} (hW : WT T) (h : EX T N) (hf : f < T 1) (hh : how = 0 ∨ how = 2 ∨ how = 3) : EX T (mkn N f how 0) := by
  have w1 := hW.1.2.1
  obtain ⟨w, hw, hl⟩ := h.1.2.2.2.2.2
  refine ⟨h.1.make hW hf (by omega) (by omega) (fun q => by omega) ⟨w, hw, lft_off (by omega) (by omega) hl⟩, fun hc g hg => ?_⟩
  rw [mkn_hi (by omega) (by omega)] at hc
  rw [mkn_lo (by omega) hg]
  split
  · omega
  · exact h.2 hc g hg
theorem pc_fre {T N : Nat → Nat} (hW : WT T) (hN : ∀ f, f < 8 → T 1 ≤ f → N f = 0) : pc (fre T N) + pc (knF N) = T 1 := by
  have w1 := hW.1.2.1
  have e1 : pc (fre T N) = cntB (fun f => !(knF N).testBit f) (T 1) := by
    unfold pc
    rw [cnt_gap w1 fun f h1 _ => by rw [fre_bit, decide_eq_false (by omega), Bool.false_and]]
    exact cntB_congr fun f hf => by rw [fre_bit, decide_eq_true hf, Bool.true_and]
  have e2 : pc (knF N) = cntB (fun f => (knF N).testBit f) (T 1) := by
    unfold pc
    exact cnt_gap w1 fun f h1 h2 => by
      unfold knF
      rw [bs_bit, decide_eq_true h2, Bool.true_and]
      unfold kn
      rw [hN f h2 h1]; rfl
  rw [e1, e2]
  exact cnt_compl _ _ _ fun i _ => by cases (knF N).testBit i <;> rfl
end Find
