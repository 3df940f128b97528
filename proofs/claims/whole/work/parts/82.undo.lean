section Undo
variable {σ : Sg} {I I' J I1 I2 I3 Ja : Nat → Nat → Int32} {L L' L1 L2 : Nat → Nat → Int64} {T N N' M : Nat → Nat} {a a' : Nat} {P P' : Nat → Nat → Nat} {K : Nat → Bool} {Q : Nat → Nat → Nat}
/-- a state from elsewhere comes in -/
theorem act_in (h : BI σ I L T N a P K Q) (hEX : EX T N') (hHC : HC I1 a' P') (c1 : CSt I1 (gsa σ) N') (if1 : ∀ x, (x < 285 ∨ x = 286 ∨ x = 287 ∨ 400 ≤ x) → (x < gsa σ ∨ gsa σ + 7 ≤ x) → I1 x = I x) (i5 : ∀ k, k ≠ 3 → k ≠ 4 → I1 285 k = I 285 k)
    (mHM : HM I2 a' P') (mN : rN I2 N') (mK : Rm (I2 447) 0 (lft T N')) (mf : ∀ x, x ≠ 433 → x ≠ 438 → x ≠ 439 → x ≠ 447 → I2 x = I1 x) (m3 : ∀ k, k ≠ 8 → I2 433 k = I1 433 k) (hP' : ∀ j, j < a' → EX T (P' j)) :
    BI σ I2 L T N' a' P' K Q ∧ Fr0 I L I2 L := by
  have hsa := h.1.1.2.1
  have p1 := h.2.2.2.1.1
  have g1 : 268 ≤ gsa σ := by unfold isSt at hsa; omega
  have g2 : gsa σ + 7 ≤ 282 := by unfold isSt at hsa; omega
  obtain ⟨Ja, hJa⟩ : ∃ Ja : Nat → Nat → Int32, Ja = fun x => if gsa σ ≤ x ∧ x < gsa σ + 7 then I x else I1 x := ⟨_, rfl⟩
  have jo : ∀ x, (x < gsa σ ∨ gsa σ + 7 ≤ x) → Ja x = I1 x := fun x hx => by rw [hJa]; exact if_neg (by omega)
  refine act_done h hEX (Ja := Ja) (hHC.fr (by rw [jo 285 (by omega)]) (by rw [jo 285 (by omega)]) (fun x a b => jo x (by omega))) (fun x hx => ?_) (fun k k3 k4 => by rw [jo 285 (by omega), i5 k k3 k4]) c1 (fun x hx => (jo x hx).symm) (fun _ _ => rfl) mHM mN mK mf m3 hP'
  by_cases e : gsa σ ≤ x ∧ x < gsa σ + 7
  · rw [hJa]; exact if_pos e
  · rw [jo x (by omega)]; exact if1 x hx (by omega)
/-- undo -/
theorem q_undo (h : BI σ I L T N a P K Q) : AR σ I L T (mX11_undo 100 (hk σ I L)) (fun hp => mX12_undo 433 hp) := by
  obtain ⟨h1, h2, h3, ⟨p1, p2, p3, p4, p5, p6, p7⟩, h5, h6⟩ := id h
  have hsa := h1.1.2.1
  have g2 : gsa σ + 7 ≤ 282 := by unfold isSt at hsa; omega
  have h4 := p2.2.1
  have a16 := p2.1
  by_cases ha : a = 0
  · refine AR.no' h (v := -1) ?_ ?_
    · unfold mX11_undo mX0_takeBack
      rw [if_pos s100, gHist, obind, gSa, if_pos s285, gI_o 4 (n := 5) rfl, obind, h4, ha, if_pos (show nI 0 = 0 from rfl), b2s, if_pos rfl]
    · unfold mX12_undo
      rw [if_pos s433, g8, obind, p3.1, ha, if_pos (show nI 0 = 0 from rfl)]
  · obtain ⟨I1, e1, q1, q2, q3, q4⟩ := ctake_ok (σ := σ) (L := L) p2 hsa p1 (by omega)
    have hEX := p6 (a - 1) (by omega)
    have hi : ∀ x, 414 ≤ x → I1 x = I x := fun x hx => q3 x (by omega) (by omega)
    obtain ⟨I2, e2, r1, r2, r3, r4, r5⟩ := mundo_ok (σ := σ) (I := I1) (L := L) (T := T) (p3.fr ⟨by rw [hi 433 (by omega)], hi 439 (by omega)⟩) a16 (by omega) (fun f hf => ⟨(hEX.1.1 f hf).1, (hEX.1.1 f hf).2.1⟩) (by rw [hi 444 (by omega)]; exact h2.2.2.2.2.1)
    obtain ⟨b1, b2⟩ := act_in h hEX q1 q2 (fun x hx hy => q3 x (by omega) hy) q4 r1 r2 r3 (fun x a b _ d => r4 x a b d) r5 (fun j hj => p6 j (by omega))
    refine ⟨nI (a - 1), I1, L, I2, L, _, _, _, _, _, ?_, e2, b1, b2, q3 1 (by omega) (by unfold isSt at hsa; omega)⟩
    unfold mX11_undo
    rw [if_pos s100, gHist, obind, gSa, e1, b2s, if_neg (show ¬ (1 : Int32) = 0 by decide), gHist, obind, gI_o 4 (n := 5) rfl, obind, q1.2.1]
/-- keep -/
theorem q_keep (h : BI σ I L T N a P K Q) (x : Int32) : AR σ I L T (mX11_keep 100 x (hk σ I L)) (fun hp => mX12_keep 433 x hp) := by
  obtain ⟨h1, h2, h3, ⟨p1, p2, p3, p4, p5, p6, p7⟩, h5, h6⟩ := id h
  have hsa := h1.1.2.1
  have g1 : 268 ≤ gsa σ := by unfold isSt at hsa; omega
  have g2 : gsa σ + 7 ≤ 282 := by unfold isSt at hsa; omega
  rcases ixn x 2 (by omega) with ⟨i, hi, rfl, hd⟩ | hd
  · obtain ⟨I1, e1, q1, q2, q3⟩ := cstore_ok (σ := σ) (L := L) p4 hi hsa p1 h1.2.2.2.2 h3.1.2.2.2.1.2 h3.1.2.1
    have fi : ∀ x, 414 ≤ x → I1 x = I x := fun x hx => q2 x (by omega) (by omega)
    obtain ⟨I2, e2, r1, r2⟩ := mkeep_ok (σ := σ) (I := I1) (L := L) (N := N) (p5.fr ⟨fi 440 (by omega), fi 441 (by omega)⟩) hi (fun j hj => by rw [fi 438 (by omega)]; exact h2.2.1 j hj)
    have f0 : Fr0 I L I2 L := ⟨fun x hx => ⟨by unfold KR at hx; rw [r2 x (by omega) (by omega), q2 x (by omega) (by omega)], rfl⟩, fun k _ _ _ => by rw [r2 433 (by omega) (by omega), fi 433 (by omega)], fun _ _ _ => rfl⟩
    have s2 : CSt I2 (gsa σ) N := h1.2.2.2.2.eq fun x a b => by rw [r2 x (by omega) (by omega), q2 x (by omega) (by omega)]
    refine ⟨1, I1, L, I2, L, N, a, P, updA K i true, updA Q i N, ?_, e2, ⟨h1.act f0 s2 h3.1, h2.fw fun x hx => by rw [r2 x (by omega) (by omega), fi x (by omega)], h3, ⟨p1, ?_, ?_, ?_, r1, p6, fun j hj hk' => ?_⟩, h5.f0 f0, h6.f0 f0⟩, f0, q2 1 (by omega) (by omega)⟩
    · unfold mX11_keep
      rw [if_pos s100, gHist, obind, gSa, e1, b2s]; rfl
    · exact p2.fr (by rw [r2 285 (by omega) (by omega), q3 3 (by omega)]) (by rw [r2 285 (by omega) (by omega), q3 4 (by omega)]) (fun x a b => by rw [r2 x (by omega) (by omega), q2 x (by omega) (by omega)])
    · exact p3.fr ⟨by rw [r2 433 (by omega) (by omega), fi 433 (by omega)], by rw [r2 439 (by omega) (by omega), fi 439 (by omega)]⟩
    · exact q1.fr (by rw [r2 285 (by omega) (by omega)]) (fun x a b => r2 x (by omega) (by omega))
    · by_cases e : j = i
      · subst e; rw [updA_same]; exact h3
      · rw [updA_ne _ _ e] at hk' ⊢; exact p7 j hj hk'
  · refine AR.no' h (v := 0) ?_ ?_
    · unfold mX11_keep mX0_store
      rw [if_pos s100, gHist, obind, gSa, if_pos s285]
      rcases ix_cases x with hy | ⟨j, hj, rfl⟩
      · rw [if_pos hy, b2s]; rfl
      · rw [nI_toInt hj] at hd
        have := of_decide_eq_false hd
        rw [if_neg (nI_pos hj), g285, RF_285_1, len287, obind, c_nlt (by omega) hj, b2s]; rfl
    · unfold mX12_keep
      rw [if_pos s433, in_1, hd, obind, bI_if0, if_pos rfl]
/-- again -/
theorem q_again (h : BI σ I L T N a P K Q) (x : Int32) : AR σ I L T (mX11_again 100 x (hk σ I L)) (fun hp => mX12_again 433 x hp) := by
  obtain ⟨h1, h2, h3, ⟨p1, p2, p3, p4, p5, p6, p7⟩, h5, h6⟩ := id h
  have hsa := h1.1.2.1
  have g2 : gsa σ + 7 ≤ 282 := by unfold isSt at hsa; omega
  rcases ixn x 2 (by omega) with ⟨i, hi, rfl, hd⟩ | hd
  · cases hk' : K i
    · refine AR.no' h (v := 0) ?_ ?_
      · unfold mX11_again
        rw [if_pos s100, gHist, obind, gSa, crestore_no p4 hi hk', b2s]; rfl
      · unfold mX12_again
        rw [if_pos s433, in_1, hd, obind, bI_if0, if_neg nTF, gM 7, RF_433_7, ldZ_ok (n := 2) rfl hi (by omega), obind, hpI_hk', (p5 i hi).1, bI_if0, hk', if_pos rfl]
    · obtain ⟨I1, e1, q1, q2, q3, q4⟩ := crestore_ok (σ := σ) (L := L) p2 p4 hi hk' hsa p1 h1.2.2.2.2 h3.1.2.2.2.1.2 h3.1.2.1
      have hEX := p7 i hi hk'
      have fi : ∀ x, 414 ≤ x → I1 x = I x := fun x hx => q3 x (by omega) (by omega)
      obtain ⟨I2, e2, r1, r2, r3, r4, r5⟩ := magain_ok (σ := σ) (I := I1) (L := L) (T := T) (N := N) (p3.fr ⟨by rw [fi 433 (by omega)], fi 439 (by omega)⟩) p2.1 (p5.fr ⟨fi 440 (by omega), fi 441 (by omega)⟩) hi hk' (fun j hj => by rw [fi 438 (by omega)]; exact h2.2.1 j hj) (fun f hf => ⟨(hEX.1.1 f hf).1, (hEX.1.1 f hf).2.1⟩) (by rw [fi 444 (by omega)]; exact h2.2.2.2.2.1)
      obtain ⟨b1, b2⟩ := act_in h hEX q1 q2 q3 q4 r1 r2 r3 r4 r5 (psh_EX p6 p2.1 h3)
      refine ⟨1, I1, L, I2, L, _, _, _, _, _, ?_, e2, b1, b2, q3 1 (by omega) (by unfold isSt at hsa; omega)⟩
      unfold mX11_again
      rw [if_pos s100, gHist, obind, gSa, e1, b2s]; rfl
  · refine AR.no' h (v := 0) ?_ ?_
    · unfold mX11_again mX0_restore
      rw [if_pos s100, gHist, obind, gSa, if_pos s285]
      rcases ix_cases x with hy | ⟨j, hj, rfl⟩
      · rw [if_pos hy, b2s]; rfl
      · rw [nI_toInt hj] at hd
        have := of_decide_eq_false hd
        rw [if_neg (nI_pos hj), g285, RF_285_1, len287, obind, c_nlt (by omega) hj, b2s]; rfl
    · unfold mX12_again
      rw [if_pos s433, in_1, hd, obind, bI_if0, if_pos rfl]
end Undo
