section Loops2
variable {σ τ : Sg} {I I' J J' I1 I2 I3 Ja : Nat → Nat → Int32} {L L' M M' L1 L2 : Nat → Nat → Int64} {X : Nat → Nat} {n m i la off t1 t2 fl pl dp h0 N : Nat} {W : Nat → List Nat} {T T' : Nat → Nat}
theorem andl_ok (hla : isLa la) (hg : gpl σ = la) (hoff : off ≤ 480)
    (inn : ∀ {I J M i T}, PE I J M X n m i la off W t1 t2 T dp → ER σ τ I J L M X n m i la off W t1 t2 T dp (h0 + 1) ((mg_X2_readEither N).2.2.1 282 (nI dp) (hk σ I L)) ((mg_X12_both N).2.2.1 433 (hk τ J M))) :
    ∀ k i, m - i ≤ k → ∀ {I J M T x}, PE I J M X n m i la off W t1 t2 T dp → x ≤ i → LR σ τ I J L M X n m i la off W t1 t2 T dp h0 (mX2_readEvery_l12 (mg_X2_readEither N) 282 (nI dp) (nI x) (hk σ I L)) (mX12_both_l4 (mg_X12_both N) 433 (hk τ J M)) := by
  intro k
  induction k with
  | zero =>
    intro i hi I J M T x h hx
    have him := h.1.2.2.2.2.2.2
    have e0 : ck X n (pz X n i) = 0 := h.1.end_iff.mpr (by omega)
    refine Or.inl ⟨I, J, M, i, T, ?_, ?_, h, Nat.le_refl _, Nat.le_refl _, fun _ _ _ => rfl, RG.nil _ _ _ _, CF3.rf, MX.rf⟩
    · unfold mX2_readEvery_l12
      refine lp_inr ?_
      show mX2_readEvery_l12f (mg_X2_readEither N) 282 (nI dp) (nI x) (hk σ I L) = _
      unfold mX2_readEvery_l12f
      rw [nextKind_ok h.1, obind, e0, if_neg (show ¬ nI 0 = (38 : Int32) by decide), xts]
      by_cases q : nI x < (480 : Int32)
      · rw [if_pos q]
      · rw [if_neg q]
    · unfold mX12_both_l4
      refine lp_inr ?_
      show mX12_both_l4f (mg_X12_both N) 433 (hk τ J M) = _
      unfold mX12_both_l4f
      rw [show (38 : Int32) = nI 38 from rfl, isSign_ok h.2.1.2.1 h.2.1.2.2 (by decide), obind, e0, if_pos (show bI (decide (0 = 38)) = 0 from rfl), xts]
  | succ k ih =>
    intro i hi I J M T x h hx
    have hle := h.1.le
    have him := h.1.2.2.2.2.2.2
    have hlt := ck_lt X n (pz X n i)
    by_cases q : ck X n (pz X n i) = 38
    · have hne : ck X n (pz X n i) ≠ 0 := by omega
      have hlm : i < m := by have : i ≠ m := fun z => hne (h.1.end_iff.mpr z); omega
      have hm480 : m ≤ 480 := by have := h.1.1; have := h.1.2.1; omega
      obtain ⟨u, w, en, hpn, fn⟩ := PMk.nx (σ := τ) h.2.1
      have h1 := h.nx hla hne hpn fn
      have cB : ∀ {o : Option (Int32 × Hp)}, (b2 ((mg_X2_readEither N).2.2.1 282 (nI dp) (hk σ (rowUp I 282 (updA (I 282) 5 (nI (i + 1)))) L)) fun v7 h8 => if v7 = 0 then xt (some ((0 : Int32), h8)) else (gR 2 3 282 h8).bind fun v9 => (mX1_emit v9 (9 : Int32) h8).bind fun h11 => some (.inl ((nI x + (1 : Int32)), h11))) = (match o with | some r => some (.inr r) | none => none) → o ≠ none → mX2_readEvery_l12 (mg_X2_readEither N) 282 (nI dp) (nI x) (hk σ I L) = o := by
        intro o eo ho
        cases o with
        | none => exact absurd rfl ho
        | some r =>
          unfold mX2_readEvery_l12
          refine lp_inr ?_
          show mX2_readEvery_l12f (mg_X2_readEither N) 282 (nI dp) (nI x) (hk σ I L) = _
          unfold mX2_readEvery_l12f
          rw [if_pos (show nI x < (480 : Int32) from nI_lt (b := 480) (by omega) (by omega)), nextKind_ok h.1, obind, q, if_pos (show nI 38 = (38 : Int32) from rfl), gPI, obind, h.1.2.2.2.2.2.1, sI_ok s282, obind, setI_hk, hpI_hk', nI_1]
          exact eo
      have cG : ∀ {t : Int32 × Hp}, (b2 ((mg_X2_readEither N).2.2.1 282 (nI dp) (hk σ (rowUp I 282 (updA (I 282) 5 (nI (i + 1)))) L)) fun v7 h8 => if v7 = 0 then xt (some ((0 : Int32), h8)) else (gR 2 3 282 h8).bind fun v9 => (mX1_emit v9 (9 : Int32) h8).bind fun h11 => some (Sum.inl ((nI x + (1 : Int32)), h11))) = some (.inl t) → mX2_readEvery_l12 (mg_X2_readEither N) 282 (nI dp) (nI x) (hk σ I L) = mX2_readEvery_l12 (mg_X2_readEither N) 282 (nI dp) t.1 t.2 := by
        intro t et
        unfold mX2_readEvery_l12
        refine lp_inl ?_
        show mX2_readEvery_l12f (mg_X2_readEither N) 282 (nI dp) (nI x) (hk σ I L) = _
        unfold mX2_readEvery_l12f
        rw [if_pos (show nI x < (480 : Int32) from nI_lt (b := 480) (by omega) (by omega)), nextKind_ok h.1, obind, q, if_pos (show nI 38 = (38 : Int32) from rfl), gPI, obind, h.1.2.2.2.2.2.1, sI_ok s282, obind, setI_hk, hpI_hk', nI_1]
        exact et
      have mG : ∀ {t : Hp}, (((mg_X12_both N).2.2.1 433 (hk τ (rowUp J 433 u) (rowUp M 433 w))).bind fun h8 => (mX12_step 433 (2 : Int32) (0 : Int32) h8).bind fun h10 => some (Sum.inl h10)) = (some (Sum.inl t) : Option (Hp ⊕ Hp)) → mX12_both_l4 (mg_X12_both N) 433 (hk τ J M) = mX12_both_l4 (mg_X12_both N) 433 t := by
        intro t et
        unfold mX12_both_l4
        refine lp_inl ?_
        show mX12_both_l4f (mg_X12_both N) 433 (hk τ J M) = _
        unfold mX12_both_l4f
        rw [show (38 : Int32) = nI 38 from rfl, isSign_ok h.2.1.2.1 h.2.1.2.2 (by decide), obind, q, if_neg (show ¬ bI (decide (38 = 38)) = 0 by decide), en, obind]
        exact et
      rcases inn h1 with ⟨I2, J2, M2, i2, T2, e1, e2, p2, l2, l3, a2, r2, f2, g2⟩ | ⟨fl, pl, I2, J2, M2, T2, e1, e2, p1, p2, p3, p4, p5, p6⟩
      · have ht7 := h.2.2.2.2.2.2.1
        obtain ⟨I3, r, c1, c2, p3, f3, g3⟩ := p2.em (σ := σ) (τ := τ) (L := L) hla hoff (by omega) (a := 2) (b := 0) (c := 200) rfl (v := 9) rfl
        have c2 : mX12_step 433 (2 : Int32) (0 : Int32) (hk τ J2 M2) = some (hk τ (rowUp J2 435 r) M2) := c2
        have eC := cG (t := (nI x + 1, hk σ I3 L)) (by rw [e1, b2s, if_neg (by decide), gDr, hg, c1, obind])
        have eM := mG (t := hk τ (rowUp J2 435 r) M2) (by rw [e2, obind, c2, obind])
        have bo := (bin_ok (c := 200) (Or.inl rfl)).1 h0
        have rg : RG t1 (cT (sT T2 200)) (T 7) (sT T2 200 7) (h0 + 1) (h0 + 1) := by
          rw [sT_7]
          have z1 : RG t1 (cT (sT T2 200)) (T 7) (T2 7) (h0 + 1) (h0 + 2) := r2.cg (fun s _ h2 => sT_lo h2)
          have z2 : RG t1 (cT (sT T2 200)) (T2 7) (T2 7 + 1) (h0 + 2) (hst (cT (sT T2 200) (T2 7)) (h0 + 2)) := RG.one (by rw [sT_at]; exact bo.1) (by rw [sT_at]; omega)
          rw [sT_at, bo.2] at z2
          exact z1.tr z2
        have rge := r2.1.1
        rw [eC, eM]
        have := ih i2 (by omega) (x := x + 1) p3 (by omega)
        rw [nI_1]
        rcases this with ⟨I4, J4, M4, i4, T4, d1, d2, p4, l4, l5, a4, r4, f4, g4⟩ | ⟨fl, pl, I4, J4, M4, T4, d1, d2, q1, q2, q3, q4, q5, q6⟩
        · refine Or.inl ⟨I4, J4, M4, i4, T4, d1, d2, p4, by omega, by rw [sT_7] at l5; omega, fun j j7 hj => ?_, ?_, ((CF2.up.c3 hla).tr f2).tr (f3.tr f4), (fn.x.tr g2).tr (g3.tr g4)⟩
          · rw [a4 j j7 (by rw [sT_7]; omega), sT_ne j7 (by omega), a2 j j7 hj]
          · exact (rg.cg (fun s h1 h2 => cT_eq a4 h2)).tr r4
        · refine Or.inr ⟨fl, pl, I4, J4, M4, T4, d1, d2, q1, ((CF2.up.c3 hla).tr f2).tr (f3.tr q2), q3, (fn.x.tr g2).tr (g3.tr q4), q5, fun j j7 hj => ?_⟩
          rw [q6 j j7 hj, sT_ne j7 (by omega), a2 j j7 (by omega)]
      · have eC := cB (o := some (0, hk σ I2 L)) (by rw [e1, b2s, if_pos rfl, xts]) (by intro z; cases z)
        have eM := mG (t := hk τ J2 M2) (by rw [e2, obind, step_bad p3, obind])
        rw [eC, eM]
        exact Or.inr ⟨fl, pl, I2, J2, M2, T2, rfl, andl_bad p3, p1, (CF2.up.c3 hla).tr p2, p3, fn.x.tr p4, p5, p6⟩
    · refine Or.inl ⟨I, J, M, i, T, ?_, ?_, h, Nat.le_refl _, Nat.le_refl _, fun _ _ _ => rfl, RG.nil _ _ _ _, CF3.rf, MX.rf⟩
      · unfold mX2_readEvery_l12
        refine lp_inr ?_
        show mX2_readEvery_l12f (mg_X2_readEither N) 282 (nI dp) (nI x) (hk σ I L) = _
        unfold mX2_readEvery_l12f
        rw [nextKind_ok h.1, obind, if_neg (show ¬ nI (ck X n (pz X n i)) = (38 : Int32) by rw [show (38 : Int32) = nI 38 from rfl, nI_eq' (by omega) (by omega)]; exact q), xts]
        by_cases q : nI x < (480 : Int32)
        · rw [if_pos q]
        · rw [if_neg q]
      · unfold mX12_both_l4
        refine lp_inr ?_
        show mX12_both_l4f (mg_X12_both N) 433 (hk τ J M) = _
        unfold mX12_both_l4f
        rw [show (38 : Int32) = nI 38 from rfl, isSign_ok h.2.1.2.1 h.2.1.2.2 (by decide), obind, decide_eq_false q, if_pos (show bI false = 0 from rfl), xts]

theorem either_ok (hla : isLa la) (hg : gpl σ = la) (hoff : off ≤ 480)
    (inn : ∀ h, h = h0 ∨ h = h0 + 1 → ∀ {I J M i T}, PE I J M X n m i la off W t1 t2 T dp → ER σ τ I J L M X n m i la off W t1 t2 T dp h ((mg_X2_readEither N).2.1 282 (nI dp) (hk σ I L)) ((mg_X12_both N).1 433 (hk τ J M))) {I J : Nat → Nat → Int32} {M : Nat → Nat → Int64} {i : Nat} {T : Nat → Nat}
    (h : PE I J M X n m i la off W t1 t2 T dp) : ER σ τ I J L M X n m i la off W t1 t2 T dp h0 ((mg_X2_readEither (N + 1)).1 282 (nI dp) (hk σ I L)) ((mg_X12_both (N + 1)).2.1 433 (hk τ J M)) := by
  show ER σ τ I J L M X n m i la off W t1 t2 T dp h0 (mX2_readEither_F (mg_X2_readEither N) 282 (nI dp) (hk σ I L)) (mX12_either_F (mg_X12_both N) 433 (hk τ J M))
  unfold mX2_readEither_F mX12_either_F
  rw [if_pos s282, if_pos s433]
  rcases inn h0 (Or.inl rfl) h with ⟨I2, J2, M2, i2, T2, e1, e2, p2, l2, l3, a2, r2, f2, g2⟩ | ⟨fl, pl, I2, J2, M2, T2, e1, e2, p1, p2, p3, p4, p5, p6⟩
  · rw [e1, b2s, if_neg (by decide), e2, obind]
    have r21 := r2.1.1
    rcases orl_ok (σ := σ) (τ := τ) (L := L) (h0 := h0) (N := N) hla hg hoff (fun h => inn (h0 + 1) (Or.inr rfl) h) (m - i2) i2 (Nat.le_refl _) (x := 0) p2 (Nat.zero_le _) with ⟨I4, J4, M4, i4, T4, d1, d2, p4, l4, l5, a4, r4, f4, g4⟩ | ⟨fl, pl, I4, J4, M4, T4, d1, d2, q1, q2, q3, q4, q5, q6⟩
    · exact Or.inl ⟨I4, J4, M4, i4, T4, d1, d2, p4, by omega, by omega, fun j j7 hj => by rw [a4 j j7 (by omega), a2 j j7 hj], (r2.cg (fun s h1 h2 => cT_eq a4 h2)).tr r4, f2.tr f4, g2.tr g4⟩
    · exact Or.inr ⟨fl, pl, I4, J4, M4, T4, d1, d2, q1, f2.tr q2, q3, g2.tr q4, q5, fun j j7 hj => by rw [q6 j j7 hj, a2 j j7 (by omega)]⟩
  · rw [e1, b2s, if_pos rfl, e2, obind, orl_bad p3]
    exact Or.inr ⟨fl, pl, I2, J2, M2, T2, rfl, rfl, p1, p2, p3, p4, p5, p6⟩

theorem every_ok (hla : isLa la) (hg : gpl σ = la) (hoff : off ≤ 480)
    (inn : ∀ h, h = h0 ∨ h = h0 + 1 → ∀ {I J M i T}, PE I J M X n m i la off W t1 t2 T dp → ER σ τ I J L M X n m i la off W t1 t2 T dp h ((mg_X2_readEither N).2.2.1 282 (nI dp) (hk σ I L)) ((mg_X12_both N).2.2.1 433 (hk τ J M))) {I J : Nat → Nat → Int32} {M : Nat → Nat → Int64} {i : Nat} {T : Nat → Nat}
    (h : PE I J M X n m i la off W t1 t2 T dp) : ER σ τ I J L M X n m i la off W t1 t2 T dp h0 ((mg_X2_readEither (N + 1)).2.1 282 (nI dp) (hk σ I L)) ((mg_X12_both (N + 1)).1 433 (hk τ J M)) := by
  show ER σ τ I J L M X n m i la off W t1 t2 T dp h0 (mX2_readEvery_F (mg_X2_readEither N) 282 (nI dp) (hk σ I L)) (mX12_both_F (mg_X12_both N) 433 (hk τ J M))
  unfold mX2_readEvery_F mX12_both_F
  rw [if_pos s282, if_pos s433]
  rcases inn h0 (Or.inl rfl) h with ⟨I2, J2, M2, i2, T2, e1, e2, p2, l2, l3, a2, r2, f2, g2⟩ | ⟨fl, pl, I2, J2, M2, T2, e1, e2, p1, p2, p3, p4, p5, p6⟩
  · rw [e1, b2s, if_neg (by decide), e2, obind]
    have r21 := r2.1.1
    rcases andl_ok (σ := σ) (τ := τ) (L := L) (h0 := h0) (N := N) hla hg hoff (fun h => inn (h0 + 1) (Or.inr rfl) h) (m - i2) i2 (Nat.le_refl _) (x := 0) p2 (Nat.zero_le _) with ⟨I4, J4, M4, i4, T4, d1, d2, p4, l4, l5, a4, r4, f4, g4⟩ | ⟨fl, pl, I4, J4, M4, T4, d1, d2, q1, q2, q3, q4, q5, q6⟩
    · exact Or.inl ⟨I4, J4, M4, i4, T4, d1, d2, p4, by omega, by omega, fun j j7 hj => by rw [a4 j j7 (by omega), a2 j j7 hj], (r2.cg (fun s h1 h2 => cT_eq a4 h2)).tr r4, f2.tr f4, g2.tr g4⟩
    · exact Or.inr ⟨fl, pl, I4, J4, M4, T4, d1, d2, q1, f2.tr q2, q3, g2.tr q4, q5, fun j j7 hj => by rw [q6 j j7 hj, a2 j j7 (by omega)]⟩
  · rw [e1, b2s, if_pos rfl, e2, obind, andl_bad p3]
    exact Or.inr ⟨fl, pl, I2, J2, M2, T2, rfl, rfl, p1, p2, p3, p4, p5, p6⟩
end Loops2
