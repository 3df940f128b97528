/-! A SUIT BEGINS: other laws and states at the parser and the class, what is cleared -/
def sgl (σ : Sg) (v : Nat) : Sg := (gN σ, gla σ, glb σ, gsa σ, gsb σ, v, gps σ)
def sgs (σ : Sg) (v : Nat) : Sg := (gN σ, gla σ, glb σ, gsa σ, gsb σ, gpl σ, v)
def sga (σ : Sg) (v : Nat) : Sg := (gN σ, v, glb σ, gsa σ, gsb σ, gpl σ, gps σ)
def sgb (σ : Sg) (v : Nat) : Sg := (gN σ, gla σ, v, gsa σ, gsb σ, gpl σ, gps σ)
def sgc (σ : Sg) (v : Nat) : Sg := (gN σ, gla σ, glb σ, v, gsb σ, gpl σ, gps σ)
def sgd (σ : Sg) (v : Nat) : Sg := (gN σ, gla σ, glb σ, gsa σ, v, gpl σ, gps σ)
section Begin
variable {σ : Sg} {I I' J J' I1 I2 I3 Ja : Nat → Nat → Int32} {L L' M M' L1 L2 : Nat → Nat → Int64} {X : Nat → Nat} {n m i i2 la off t1 t2 fl pl dp h0 N kk lim s k b j w r c v : Nat} {W : Nat → List Nat} {T T' : Nat → Nat}
theorem up2_nq {f : Nat → Nat → Nat} {a k x b j : Nat} (h : b ≠ a ∨ j ≠ k) : up2 f a k x b j = f b j := by
  unfold up2
  rw [if_neg (by omega)]
theorem sR_gen {σ σ' : Sg} {cl k a v : Nat} (hs : (hpS (hk σ I L) a).1 = cl + 1) (hN : gN σ' = gN σ) (e1 : RF σ' a k = v) (e2 : ∀ b j, b ≠ a ∨ j ≠ k → RF σ' b j = RF σ b j) : sR cl k a v (hk σ I L) = some (hk σ' I L) := by
  unfold sR
  rw [if_pos hs]
  have : up2 (RF σ) a k v = RF σ' := by
    funext b j
    by_cases h : b = a ∧ j = k
    · obtain ⟨rfl, rfl⟩ := h
      rw [e1]; unfold up2; rw [if_pos ⟨rfl, rfl⟩]
    · rw [up2_nq (by omega), e2 b j (by omega)]
  show some (SH (gN σ), I, L, up2 (RF σ) a k v, 455, MM) = some (SH (gN σ'), I, L, RF σ', 455, MM)
  rw [this, hN]
theorem sR_l (v : Nat) : sR 2 3 282 v (hk σ I L) = some (hk (sgl σ v) I L) := sR_gen s282 rfl rfl (fun b j h => by
  unfold RF
  by_cases h1 : b = 100
  · rw [if_pos h1, if_pos h1]; rfl
  · rw [if_neg h1, if_neg h1]
    by_cases h2 : b = 282
    · rw [if_pos h2, if_pos h2, if_neg (show ¬ j = 3 by omega), if_neg (show ¬ j = 3 by omega)]; rfl
    · rw [if_neg h2, if_neg h2])
theorem sR_s (v : Nat) : sR 2 4 282 v (hk σ I L) = some (hk (sgs σ v) I L) := sR_gen s282 rfl rfl (fun b j h => by
  unfold RF
  by_cases h1 : b = 100
  · rw [if_pos h1, if_pos h1]; rfl
  · rw [if_neg h1, if_neg h1]
    by_cases h2 : b = 282
    · rw [if_pos h2, if_pos h2, if_neg (show ¬ j = 4 by omega), if_neg (show ¬ j = 4 by omega)]; rfl
    · rw [if_neg h2, if_neg h2])
theorem sR_a (v : Nat) : sR 11 3 100 v (hk σ I L) = some (hk (sga σ v) I L) := sR_gen s100 rfl rfl (fun b j h => by
  unfold RF
  by_cases h1 : b = 100
  · rw [if_pos h1, if_pos h1, if_neg (show ¬ j = 3 by omega), if_neg (show ¬ j = 3 by omega)]; rfl
  · rw [if_neg h1, if_neg h1]; rfl)
theorem sR_b (v : Nat) : sR 11 4 100 v (hk σ I L) = some (hk (sgb σ v) I L) := sR_gen s100 rfl rfl (fun b j h => by
  unfold RF
  by_cases h1 : b = 100
  · rw [if_pos h1, if_pos h1, if_neg (show ¬ j = 4 by omega), if_neg (show ¬ j = 4 by omega)]; rfl
  · rw [if_neg h1, if_neg h1]; rfl)
theorem sR_c (v : Nat) : sR 11 5 100 v (hk σ I L) = some (hk (sgc σ v) I L) := sR_gen s100 rfl rfl (fun b j h => by
  unfold RF
  by_cases h1 : b = 100
  · rw [if_pos h1, if_pos h1, if_neg (show ¬ j = 5 by omega), if_neg (show ¬ j = 5 by omega)]; rfl
  · rw [if_neg h1, if_neg h1]; rfl)
theorem sR_d (v : Nat) : sR 11 6 100 v (hk σ I L) = some (hk (sgd σ v) I L) := sR_gen s100 rfl rfl (fun b j h => by
  unfold RF
  by_cases h1 : b = 100
  · rw [if_pos h1, if_pos h1, if_neg (show ¬ j = 6 by omega), if_neg (show ¬ j = 6 by omega)]; rfl
  · rw [if_neg h1, if_neg h1]; rfl)
/-- a law is cleared -/
theorem clear_ok (hla : isLa la) : ∃ I' r, mX1_clear la (hk σ I L) = some (hk σ I' (rowUp L (la + 12) r)) ∧ Rw r (fun _ => true) ∧ (∀ k, (k < 6 ∨ k = 13) → I' la k = 0) ∧ (∀ k, k < 5 → I' (la + 3) k = 0 ∧ I' (la + 5) k = 0) ∧ (∀ q, q < 26 → I' (la + 8) q = 0 ∧ I' (la + 9) q = 0) ∧ ∀ x, (x < la ∨ la + 10 ≤ x) → I' x = I x := by
  obtain ⟨Ia, hIa⟩ : ∃ Ia, Ia = rowUp I la (updA (updA (updA (updA (updA (updA (updA (I la) 0 0) 1 0) 2 0) 3 0) 4 0) 5 0) 13 0) := ⟨_, rfl⟩
  obtain ⟨Ib, hIb⟩ : ∃ Ib, Ib = rowUp (rowUp (rowUp (rowUp Ia (la + 3) (fun k => if k < 5 then 0 else Ia (la + 3) k)) (la + 5) (fun k => if k < 5 then 0 else Ia (la + 5) k)) (la + 8) (fun k => if k < 26 then 0 else Ia (la + 8) k)) (la + 9) (fun k => if k < 26 then 0 else Ia (la + 9) k) := ⟨_, rfl⟩
  obtain ⟨r, fe, fr⟩ := fill_ok (wPos (σ := σ) (I := Ib) (L := L) hla)
  rw [setL_hk] at fe
  refine ⟨Ib, r, ?_, fr, fun k hk' => ?_, fun k hk' => ⟨?_, ?_⟩, fun q hq => ⟨?_, ?_⟩, fun x hx => ?_⟩
  · unfold mX1_clear
    rw [if_pos (slaw hla), sI_la hla, obind, sI_la hla, obind, rowUp_two, rowUp_same, sI_la hla, obind, rowUp_two, rowUp_same, sI_la hla, obind, rowUp_two, rowUp_same, sI_la hla, obind, rowUp_two, rowUp_same, sI_la hla, obind, rowUp_two, rowUp_same, sI_la hla, obind, rowUp_two, rowUp_same, ← hIa]
    rw [gR_la hla, obind, RF_la_8 σ hla, wipe_ok (n := 5) (by rw [hpS_hk]; exact SH_la3 hla) (by omega), obind, setI_hk, hpI_hk']
    rw [gR_la hla, obind, RF_la_10 σ hla, wipe_ok (n := 5) (by rw [hpS_hk]; exact SH_la5 hla) (by omega), obind, setI_hk, hpI_hk', rowUp_ne _ _ (show la + 5 ≠ la + 3 by omega)]
    rw [gR_la hla, obind, RF_la_14 σ hla, wipe_ok (n := 26) (by rw [hpS_hk]; exact SH_la8 hla) (by omega), obind, setI_hk, hpI_hk', rowUp_ne _ _ (show la + 8 ≠ la + 5 by omega), rowUp_ne _ _ (show la + 8 ≠ la + 3 by omega)]
    rw [gR_la hla, obind, RF_la_15 σ hla, wipe_ok (n := 26) (by rw [hpS_hk]; exact SH_la9 hla) (by omega), obind, setI_hk, hpI_hk', rowUp_ne _ _ (show la + 9 ≠ la + 8 by omega), rowUp_ne _ _ (show la + 9 ≠ la + 5 by omega), rowUp_ne _ _ (show la + 9 ≠ la + 3 by omega), ← hIb]
    rw [gR_la hla, obind, RF_la_17 σ hla, fe, obind]
  · rw [hIb, rowUp_ne _ _ (by omega), rowUp_ne _ _ (by omega), rowUp_ne _ _ (by omega), rowUp_ne _ _ (by omega), hIa, rowUp_same]
    simp only [updA_at]
    rcases (show k = 0 ∨ k = 1 ∨ k = 2 ∨ k = 3 ∨ k = 4 ∨ k = 5 ∨ k = 13 by omega) with rfl | rfl | rfl | rfl | rfl | rfl | rfl <;> rfl
  · rw [hIb, rowUp_ne _ _ (by omega), rowUp_ne _ _ (by omega), rowUp_ne _ _ (by omega), rowUp_same]
    exact if_pos hk'
  · rw [hIb, rowUp_ne _ _ (by omega), rowUp_ne _ _ (by omega), rowUp_same]
    exact if_pos hk'
  · rw [hIb, rowUp_ne _ _ (by omega), rowUp_same]
    exact if_pos hq
  · rw [hIb, rowUp_same]
    exact if_pos hq
  · rw [hIb, rowUp_ne _ _ (by omega), rowUp_ne _ _ (by omega), rowUp_ne _ _ (by omega), rowUp_ne _ _ (by omega), hIa, rowUp_ne _ _ (by omega)]
theorem sI_st (hs : isSt s) (k : Nat) (v : Int32) : sI 5 k s v (hk σ I L) = some (hk σ (rowUp I s (updA (I s) k v)) L) := by
  rw [sI_ok (sSt hs), setI_hk, hpI_hk']
/-- a state is cleared -/
theorem sclear_ok (hs : isSt s) : ∃ r, mX5_clear s (hk σ I L) = some (hk σ (rowUp I s r) L) ∧ ∀ k, k < 9 → r k = 0 := by
  refine ⟨updA (updA (updA (updA (updA (updA (updA (updA (updA (I s) 0 0) 1 0) 2 0) 3 0) 4 0) 5 0) 6 0) 7 0) 8 0, ?_, fun k hk' => ?_⟩
  · unfold mX5_clear
    rw [if_pos (sSt hs), sI_st hs, obind, sZ_ok (sSt hs) (Or.inl rfl), obind, setI_hk, hpI_hk', rowUp_two, rowUp_same, sI_st hs, obind, rowUp_two, rowUp_same, sI_st hs, obind, rowUp_two, rowUp_same, sI_st hs, obind, rowUp_two, rowUp_same, sI_st hs, obind, rowUp_two, rowUp_same, sI_st hs, obind, rowUp_two, rowUp_same, sI_st hs, obind, rowUp_two, rowUp_same, sI_st hs, obind, rowUp_two, rowUp_same]
  · simp only [updA_at]
    rcases (show k = 0 ∨ k = 1 ∨ k = 2 ∨ k = 3 ∨ k = 4 ∨ k = 5 ∨ k = 6 ∨ k = 7 ∨ k = 8 by omega) with rfl | rfl | rfl | rfl | rfl | rfl | rfl | rfl | rfl <;> rfl
/-- nothing is told -/
def T00 : Nat → Nat := fun j => if j = 5 then 300 else 0
theorem sv0_ok (hla : isLa la) (hs : s = 268 ∨ s = 275) (hc : PCk I X n m 0) (hm : PMk J M X n 0) (hO : SOk L) (h1 : ∀ k, (k < 6 ∨ k = 13) → I la k = 0) (h2 : ∀ k, k < 5 → I (la + 3) k = 0 ∧ I (la + 5) k = 0) (h3 : ∀ q, q < 26 → I (la + 8) q = 0 ∧ I (la + 9) q = 0) (hp : Rw (L (la + 12)) (fun _ => true)) (h4 : ∀ k, k < 9 → I s k = 0)
    (hT : ∀ j, j < 640 → J 435 j = nI (T00 j)) (h22 : J 433 22 = 0) : SV I J L M X n m 0 la s (fun _ => []) T00 0 := by
  obtain ⟨dp, _, hdp⟩ := wb_of32 (J 433 16)
  refine ⟨⟨dp, hc, hm, ⟨by show (0 : Nat) ≤ 8; omega, by show (0 : Nat) ≤ 5; omega, h1 1 (by omega), fun _ => h1 2 (by omega), fun f hf => absurd hf (Nat.not_lt_zero _), fun _ k hk' => absurd hk' (Nat.not_lt_zero _)⟩, ⟨by show (0 : Nat) ≤ 8; omega, by show (0 : Nat) ≤ 5; omega, hT 1 (by omega), fun _ => hT 2 (by omega), fun f hf => absurd hf (Nat.not_lt_zero _), fun _ k hk' => absurd hk' (Nat.not_lt_zero _)⟩, hT, ⟨h1 13 (by omega), fun j hj => absurd hj (Nat.not_lt_zero _)⟩, Nat.le_refl _, hdp⟩, ?_, ?_, h22, hO, rfl⟩
  · refine ⟨⟨by show (0 : Nat) ≤ 8; omega, by show (0 : Nat) ≤ 5; omega, by show (0 : Nat) ≤ 6; omega, by show (0 : Nat) ≤ 6; omega, by omega, rfl, rfl⟩, fun f hf => absurd hf (Nat.not_lt_zero _), fun k hk' => absurd hk' (Nat.not_lt_zero _), fun k _ hk' => ⟨?_, ?_, ?_⟩, fun p hp => absurd hp (Nat.not_lt_zero _), fun p hp => absurd hp (Nat.not_lt_zero _), fun p hp => absurd hp (Nat.not_lt_zero _), fun p hp => absurd hp (Nat.not_lt_zero _), 0, by show (0 : Nat) < 2 ^ 0; omega, rfl⟩
    · unfold T00; rw [if_neg (by omega)]
    · unfold T00; rw [if_neg (by omega)]
    · unfold T00; rw [if_neg (by omega)]
  · refine ⟨⟨h1 0 (by omega), h1 3 (by omega), h1 4 (by omega), h1 5 (by omega), hp⟩, fun f hf => absurd hf (Nat.not_lt_zero _), fun k hk' => absurd hk' (Nat.not_lt_zero _), fun k hk' => ?_, fun p hp => absurd hp (Nat.not_lt_zero _), fun q hq => ⟨0, 0, (h3 q hq).1, (h3 q hq).2, Nat.le_refl _, Nat.le_refl _, fun s hs => absurd hs (Nat.not_lt_zero _)⟩, ⟨fun j hj _ => h4 j hj, h4 2 (by omega)⟩, fun k hk' => absurd hk' (Nat.not_lt_zero _)⟩
    rw [(h2 k hk').2]
    unfold T00
    rw [if_neg (by omega)]
    rfl
end Begin
