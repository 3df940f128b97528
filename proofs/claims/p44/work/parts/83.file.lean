section File
variable {σ : Sg} {I I' J I1 I2 I3 Ja : Nat → Nat → Int32} {L L' L1 L2 : Nat → Nat → Int64} {T N N' M : Nat → Nat} {a a' : Nat} {P P' : Nat → Nat → Nat} {K : Nat → Bool} {Q : Nat → Nat → Nat}
/-- file -/
theorem file_ok {s k dy : Nat} (b w r : Int32) (hs : isSt s) (hk' : k < 8) (h2 : I s 2 = nI k) (h0 : I s 0 = nI dy) :
    ∃ I', mX5_file s b w r (hk σ I L) = some (nI k, hk σ I' L) ∧ I' s = updA (I s) 2 (nI (k + 1)) ∧ I' (s + 1) = updA (I (s + 1)) k b ∧ I' (s + 2) = updA (I (s + 2)) k w ∧ I' (s + 3) = updA (I (s + 3)) k r ∧ I' (s + 4) = updA (I (s + 4)) k (nI dy) ∧ I' (s + 5) = updA (I (s + 5)) k 0 ∧ I' (s + 6) = updA (I (s + 6)) k 0 ∧ ∀ x, (x < s ∨ s + 7 ≤ x) → I' x = I x := by
  refine ⟨rowUp (rowUp (rowUp (rowUp (rowUp (rowUp (rowUp I (s + 1) (updA (I (s + 1)) k b)) (s + 2) (updA (I (s + 2)) k w)) (s + 3) (updA (I (s + 3)) k r)) (s + 4) (updA (I (s + 4)) k (nI dy))) (s + 5) (updA (I (s + 5)) k 0)) (s + 6) (updA (I (s + 6)) k 0)) s (updA (I s) 2 (nI (k + 1))), ?_, ?_, ?_, ?_, ?_, ?_, ?_, ?_, fun x hx => ?_⟩
  · unfold mX5_file
    rw [if_pos (sSt hs), gI_st hs, obind, h2, gR_st hs, obind, RF_st_9 σ hs, put_nI (n := 8) (sz1 hs) (by omega) hk', obind, setI_hk, hpI_hk']
    rw [gR_st hs, obind, RF_st_10 σ hs, put_nI (n := 8) (sz2 hs) (by omega) hk', obind, setI_hk, hpI_hk', rowUp_ne _ _ (show s + 2 ≠ s + 1 by omega)]
    rw [gR_st hs, obind, RF_st_11 σ hs, put_nI (n := 8) (sz3 hs) (by omega) hk', obind, setI_hk, hpI_hk', rowUp_ne _ _ (show s + 3 ≠ s + 2 by omega), rowUp_ne _ _ (show s + 3 ≠ s + 1 by omega)]
    rw [gR_st hs, obind, RF_st_12 σ hs, gI_st hs, obind, rowUp_ne _ _ (show s ≠ s + 3 by omega), rowUp_ne _ _ (show s ≠ s + 2 by omega), rowUp_ne _ _ (show s ≠ s + 1 by omega), h0, put_nI (n := 8) (sz4 hs) (by omega) hk', obind, setI_hk, hpI_hk', rowUp_ne _ _ (show s + 4 ≠ s + 3 by omega), rowUp_ne _ _ (show s + 4 ≠ s + 2 by omega), rowUp_ne _ _ (show s + 4 ≠ s + 1 by omega)]
    rw [gR_st hs, obind, RF_st_13 σ hs, put_nI (n := 8) (sz5 hs) (by omega) hk', obind, setI_hk, hpI_hk', rowUp_ne _ _ (show s + 5 ≠ s + 4 by omega), rowUp_ne _ _ (show s + 5 ≠ s + 3 by omega), rowUp_ne _ _ (show s + 5 ≠ s + 2 by omega), rowUp_ne _ _ (show s + 5 ≠ s + 1 by omega)]
    rw [gR_st hs, obind, RF_st_14 σ hs, put_nI (n := 8) (sz6 hs) (by omega) hk', obind, setI_hk, hpI_hk', rowUp_ne _ _ (show s + 6 ≠ s + 5 by omega), rowUp_ne _ _ (show s + 6 ≠ s + 4 by omega), rowUp_ne _ _ (show s + 6 ≠ s + 3 by omega), rowUp_ne _ _ (show s + 6 ≠ s + 2 by omega), rowUp_ne _ _ (show s + 6 ≠ s + 1 by omega)]
    rw [gI_st hs, obind, rowUp_ne _ _ (show s ≠ s + 6 by omega), rowUp_ne _ _ (show s ≠ s + 5 by omega), rowUp_ne _ _ (show s ≠ s + 4 by omega), rowUp_ne _ _ (show s ≠ s + 3 by omega), rowUp_ne _ _ (show s ≠ s + 2 by omega), rowUp_ne _ _ (show s ≠ s + 1 by omega), h2, nI_1, sI_ok (sSt hs), obind, setI_hk, hpI_hk', rowUp_ne _ _ (show s ≠ s + 6 by omega), rowUp_ne _ _ (show s ≠ s + 5 by omega), rowUp_ne _ _ (show s ≠ s + 4 by omega), rowUp_ne _ _ (show s ≠ s + 3 by omega), rowUp_ne _ _ (show s ≠ s + 2 by omega), rowUp_ne _ _ (show s ≠ s + 1 by omega)]
  all_goals simp (disch := omega) only [rowUp_ne, rowUp_same]
/-- the pleadings are closed -/
theorem EX.clo (h : EX T M) : EX T (updA M 16 1) := by
  have nh : ∀ i, i ≠ 16 → updA M 16 1 i = M i := fun i hi => updA_ne _ _ hi
  have ih : ∀ k j, it (updA M 16 1) k j = it M k j := fun k j => nh _ (by omega)
  have lh : lft T (updA M 16 1) = lft T M := lft_hi fun i hi => nh i (by omega)
  obtain ⟨⟨g1, g2, g3, g4, g5, g6⟩, g7⟩ := h
  refine ⟨⟨fun f hf => ?_, by rw [updA_same]; omega, by rw [nh 17 (by omega)]; exact g3, by rw [nh 18 (by omega)]; exact g4, fun k hk' => ?_, by rw [lh]; exact g6⟩, fun hc => ?_⟩
  · unfold kn; rw [nh f (by omega), nh (8 + f) (by omega)]; exact g1 f hf
  · rw [nh 18 (by omega)] at hk'
    simp only [ih, nh 17 (by omega)]
    exact g5 k hk'
  · rw [updA_same] at hc; omega
end File
