section Q2
variable {σ : Sg} {I I' : Nat → Nat → Int32} {L L' : Nat → Nat → Int64}
def slR (σ : Sg) (I : Nat → Nat → Int32) (L : Nat → Nat → Int64) (T : Nat → Nat) (slot e : Nat) : Prop := slot < 26 ∧ e < T 6 ∧ I (gla σ + 8) slot = nI (T (84 + e)) ∧ I (gla σ + 9) slot = nI (T (117 + e)) ∧ Rw (L (gla σ + 17 + 2 * slot)) (ev T e)
def tel (T N : Nat → Nat) (e k y : Nat) : Int32 := if y = 0 then nI (sen T e (it N k 4) (it N k 5)) else if y = 1 then bI (sure T (agr T (it N k 4) (it N k 5)) e) else how3 (lft T N) (ev T e)
theorem tel0 (T N : Nat → Nat) (e k : Nat) : tel T N e k 0 = nI (sen T e (it N k 4) (it N k 5)) := by unfold tel; rw [if_pos rfl]
theorem tel1 (T N : Nat → Nat) (e k : Nat) : tel T N e k 1 = bI (sure T (agr T (it N k 4) (it N k 5)) e) := by unfold tel; rw [if_neg (by decide), if_pos rfl]
theorem tel2 (T N : Nat → Nat) (e k : Nat) : tel T N e k 2 = how3 (lft T N) (ev T e) := by unfold tel; rw [if_neg (by decide), if_neg (by decide)]
theorem WN.say {T N : Nat → Nat} (hW : WT T) (h : WN T N) {k : Nat} (hk' : k < N 18) : it N k 4 < 256 ∧ it N k 5 < 256 ∧ it N k 5 &&& it N k 4 = it N k 5 := by
  have h256 := ev_lt hW.1.2.1
  obtain ⟨n0, n1, n2, n3, n4, n5, _⟩ := h.2.2.2.2.1 k hk'
  have : it N k 5 ≤ it N k 4 := by rw [← n5]; exact Nat.and_le_right
  exact ⟨by omega, by omega, n5⟩
theorem cshown_ok {T N : Nat → Nat} (h : CR σ I L T N) {k slot e y : Nat} (hk' : k < N 18) (hs : slR σ I L T slot e) (hy : y < 3) :
    ∃ I' L', mX11_shown 100 (nI k) (nI slot) (nI y) (hk σ I L) = some (tel T N e k y, hk σ I' L') ∧ FrC I L I' L' := by
  obtain ⟨⟨hla, hsa, hSO⟩, hW, hN, hL, hSt⟩ := id h
  have h18 := (hN.bkH hW).1
  obtain ⟨s1, s2, s3, s4, s5⟩ := hs
  obtain ⟨q4, q5, q45⟩ := hN.say hW hk'
  obtain ⟨hwf, h7⟩ := hW.2.2.2.2.2.1 e s2
  have w7 := hW.1.2.2.2.2.2.2.2
  obtain ⟨_, _, _, _, c5, c6⟩ := hSt.2 k hk'
  unfold mX11_shown
  rw [if_pos s100, tsw_n (by omega)]
  rcases (show y = 0 ∨ y = 1 ∨ y = 2 by omega) with rfl | rfl | rfl
  · obtain ⟨hh, yy, nn, zz, e1⟩ := glance_ok (σ := σ) (I := I) (L := L) hla q4 q5 s1 (cT T) hwf.1 (by omega) hwf.2.1 (by rw [hwf.2.2]; exact Nat.le_refl _) (fun i h1 h2 => hL.2.2.2.2.1 i (by omega)) s3 s4
    refine ⟨rowUp I 108 hh, rowUp (rowUp (rowUp L 109 yy) 110 nn) 111 zz, ?_, ?_⟩
    · rw [td0, show ∀ f : Nat → Option (Int32 × Hp), (gR 11 2 100 (hk σ I L)).bind f = f 108 from fun _ => rfl, gLa, gSa, gR_st hsa, obind, RF_st_13 σ hsa, at_r (SH_st5 hsa) (by omega) (by omega), obind, gSa, gR_st hsa, obind, RF_st_14 σ hsa, at_r (SH_st6 hsa) (by omega) (by omega), obind, c5, c6, e1, b2s, tel0]
      rfl
    · exact (((FrC.rf.upI _ (by unfold scC; omega)).upL _ (by unfold scC; omega)).upL _ (by unfold scC; omega)).upL _ (by unfold scC; omega)
  · obtain ⟨r, e1, hr⟩ := allege_ok h hk'
    refine ⟨I, rowUp L 417 r, ?_, FrC.rf.upL _ (by unfold scC; omega)⟩
    rw [td1, e1, obind, gAll, gLa, table_ok hla (by omega), obind, within_ok (wAll (σ := σ) (I := I) (L := rowUp L 417 r)) (wTab hla (by omega)) (by rw [hpL_hk'', rowUp_same]; exact hr) (by rw [hpL_hk'', rowUp_at, if_neg (by omega)]; exact s5), obind, bI_if0]
    rw [tel1]
    have hsu : allB (fun w => !agr T (it N k 4) (it N k 5) w || ev T e w) 256 = sure T (agr T (it N k 4) (it N k 5)) e := rfl
    rw [hsu]
    cases sure T (agr T (it N k 4) (it N k 5)) e <;> rfl
  · obtain ⟨r, e1, hr⟩ := remember_ok h
    refine ⟨I, rowUp L 415 r, ?_, FrC.rf.upL _ (by unfold scC; omega)⟩
    rw [td2, e1, obind, gLeft, gLa, table_ok hla (by omega), obind, howIn_ok (wLeft (σ := σ) (I := I) (L := rowUp L 415 r)) (wTab hla (by omega)) (by rw [hpL_hk'', rowUp_same]; exact hr) (by rw [hpL_hk'', rowUp_at, if_neg (by omega)]; exact s5), obind, tel2]
theorem cshown_no {T N : Nat → Nat} (h : CR σ I L T N) (x s y : Int32) (hy : decide (0 ≤ y.toInt ∧ y.toInt < (3 : Nat)) = false) : mX11_shown 100 x s y (hk σ I L) = some (-1, hk σ I L) := by
  unfold mX11_shown
  rw [if_pos s100]
  rcases ix_cases y with hy' | ⟨j, hj, rfl⟩
  · rw [tsw_neg hy']
  · rw [nI_toInt hj] at hy
    have := of_decide_eq_false hy
    rw [tsw_n hj, tdN (by simp; omega)]
theorem how3_m {f g : Nat → Bool} (hne : anyB f 256 = true) : how3 f g = if cntB (fun w => f w && g w) 256 = 0 then 0 else if cntB (fun w => f w && g w) 256 = cntB f 256 then 1 else 2 := by
  unfold how3
  by_cases h1 : allB (fun w => !f w || g w) 256 = true
  · have h2 := (cnt_sub f g 256).mpr h1
    have h3 : ¬ cntB f 256 = 0 := fun z => by have := cntB_0.mp z; rw [hne] at this; cases this
    rw [if_pos h1, if_neg (by rw [h2]; exact h3), if_pos h2]
  · rw [if_neg h1]
    have h2 : ¬ cntB (fun w => f w && g w) 256 = cntB f 256 := fun z => h1 ((cnt_sub f g 256).mp z)
    by_cases h3 : cntB (fun w => f w && g w) 256 = 0
    · rw [if_pos h3]
      have := cntB_0.mp h3
      rw [this]; rfl
    · rw [if_neg h3, if_neg h2]
      have : anyB (fun w => f w && g w) 256 = true := by
        cases hb : anyB (fun w => f w && g w) 256
        · exact absurd (cntB_0.mpr hb) h3
        · rfl
      rw [this]; rfl
theorem WN.any {T N : Nat → Nat} (h : WN T N) : anyB (lft T N) 256 = true := by
  obtain ⟨w, h1, h2⟩ := h.2.2.2.2.2
  exact anyB_iff.mpr ⟨w, h1, h2⟩
theorem dec_and {T N : Nat → Nat} (g : Nat → Bool) : (fun w => lft T N w && (decide (w < 2 ^ T 1) && g w)) = fun w => lft T N w && g w := by
  funext w
  cases hl : lft T N w
  · rfl
  · rw [decide_eq_true (lft_lt hl)]; rfl
theorem mtells_ok {T N : Nat → Nat} (h : MI I T N) {k e y : Nat} (hk' : k < N 18) (he : e < T 6) (hy : y < 3) :
    ∃ I', mX12_tellsOf 433 (nI e) (nI k) (nI y) (hk σ I L) = some (tel T N e k y, hk σ I' L) ∧ FrM I L I' L := by
  obtain ⟨hT, hN, hW, hWN, ht⟩ := id h
  have h18 := (hWN.bkH hW).1
  have w6 := hW.1.2.2.2.2.2.2.1
  obtain ⟨q4, q5, q45⟩ := hWN.say hW hk'
  unfold mX12_tellsOf
  rw [if_pos s433]
  rcases (show y = 0 ∨ y = 1 ∨ y = 2 by omega) with rfl | rfl | rfl
  · obtain ⟨P, e1⟩ := mseen_ok (σ := σ) (I := I) (L := L) hT hW he (k := k) (by omega) (hN _ (by omega)) (hN _ (by omega)) q4 q5
    refine ⟨rowUp I 443 P, ?_, FrM.rf.upI _ (by unfold scM; omega)⟩
    rw [if_pos (show nI 0 = 0 from rfl), e1, b2s, tel0]
    rfl
  · obtain ⟨r, e1, hr⟩ := laysAgreed_ok (σ := σ) (I := I) (L := L) (a := 448) (c := poss T) rfl (by decide) q4 q5 ht.1
    have h2 : MI (rowUp I 448 r) T N := h.up (by decide) (by decide) (by omega)
    refine ⟨rowUp I 448 r, ?_, FrM.rf.upI _ (by unfold scM; omega)⟩
    rw [if_neg (show ¬ nI 1 = 0 by decide), if_pos (show nI 1 = 1 from rfl), show gR 12 28 433 (hk σ I L) = some 448 from rfl, obind, its_4 hN (by omega), obind, its_5 hN (by omega), obind, e1, obind, show gR 12 28 433 (hk σ (rowUp I 448 r) L) = some 448 from rfl, obind, mSureA (σ := σ) (L := L) h2 (a := 448) (f := agr T (it N k 4) (it N k 5)) rfl (by rw [rowUp_same]; exact hr) (fun w hw => agr_lt hw) he, obind, bI_if0]
    rw [tel1]
    cases sure T (agr T (it N k 4) (it N k 5)) e <;> rfl
  · refine ⟨I, ?_, FrM.rf⟩
    have s2 := holdsIn_ok (σ := σ) (I := I) (L := L) (a := 447) (n := 8) rfl (by omega) (by omega) ht.2.2.2 (show e < 32 by omega) (ht.2.1 _ he)
    rw [dec_and] at s2
    have l1 := cntB_le (fun w => lft T N w && ev T e w) 256
    have l2 := cntB_le (lft T N) 256
    rw [if_neg (show ¬ nI 2 = 0 by decide), if_neg (show ¬ nI 2 = 1 by decide), show gR 12 27 433 (hk σ I L) = some 447 from rfl, obind, s2, obind, c_0 (by omega), obind, many_ok (a := 447) (n := 8) rfl (by omega) (by omega) ht.2.2.2, obind, c_eqd (by omega) (by omega)]
    rw [tel2, how3_m hWN.any]
    by_cases h3 : cntB (fun w => lft T N w && ev T e w) 256 = 0
    · rw [if_pos h3, if_pos h3]
    · rw [if_neg h3, if_neg h3]
      by_cases h4 : cntB (fun w => lft T N w && ev T e w) 256 = cntB (lft T N) 256
      · rw [if_pos h4, if_pos h4]
      · rw [if_neg h4, if_neg h4]
theorem in_any (x : Int32) {n : Nat} (hn : n < 1000) : mX12_in x 0 (nI n - 1) = some (bI (decide (0 ≤ x.toInt ∧ x.toInt < (n : Int)))) := by
  have c1 : (nI n - 1).toInt = (n : Int) - 1 := by
    have k : ∀ n, n < 1000 → (nI n - 1).toInt = (n : Int) - 1 := by decide +kernel
    exact k _ hn
  have h0 : (0 : Int32).toInt = 0 := rfl
  unfold mX12_in
  by_cases a1 : x < 0
  · have := Int32.lt_iff_toInt_lt.mp a1
    rw [if_pos a1, decide_eq_false (by omega)]; rfl
  · have n1 : ¬ x.toInt < 0 := fun h => a1 (Int32.lt_iff_toInt_lt.mpr (by omega))
    by_cases a2 : nI n - 1 < x
    · have := Int32.lt_iff_toInt_lt.mp a2
      rw [if_neg a1, if_pos a2, decide_eq_false (by omega)]; rfl
    · have n2 : ¬ (nI n - 1).toInt < x.toInt := fun h => a2 (Int32.lt_iff_toInt_lt.mpr h)
      rw [if_neg a1, if_neg a2, decide_eq_true (by omega)]; rfl
theorem in_2 (x : Int32) : mX12_in x 0 2 = some (bI (decide (0 ≤ x.toInt ∧ x.toInt < (3 : Nat)))) := in_any x (n := 3) (by omega)
theorem in_1 (x : Int32) : mX12_in x 0 1 = some (bI (decide (0 ≤ x.toInt ∧ x.toInt < (2 : Nat)))) := in_any x (n := 2) (by omega)
theorem in_3 (x : Int32) : mX12_in x 0 3 = some (bI (decide (0 ≤ x.toInt ∧ x.toInt < (4 : Nat)))) := in_any x (n := 4) (by omega)
/-- element -/
theorem q_element {T N : Nat → Nat} (h : CR σ I L T N) (hm : MI I T N) (x i y : Int32) :
    ∃ v I1 L1 I2, mX11_element 100 x i y (hk σ I L) = some (v, hk σ I1 L1) ∧ mX12_element 433 x i y (hk σ I1 L1) = some (v, hk σ I2 L1) ∧ FrC I L I1 L1 ∧ FrM I1 L1 I2 L1 := by
  have hla := h.1.1
  have hW := h.2.1
  have h18 := (h.2.2.1.bkH hW).1
  unfold mX11_element
  rw [if_pos s100, cisCount_ok h, obind, bI_if0]
  rcases ixn x (N 18) (by omega) with ⟨k, hk', rfl, hd⟩ | hd
  · rw [hd, if_neg (by decide)]
    obtain ⟨a0, _⟩ := h.2.2.1.2.2.2.2.1 k hk'
    obtain ⟨_, _, b26, b31, _⟩ := hW.2.2.1 _ a0
    have w2 := hW.1.2.2.1
    have hc3 := (h.2.2.2.1.2.2.1 _ a0)
    have rd : mX11_at (gla σ + 3) (nI (it N k 0)) (hk σ I L) = some (nI (T (26 + it N k 0))) := by rw [at_r (SH_la3 hla) (by omega) (by omega), hc3.1]
    have mod : ∀ I1 L1, FrC I L I1 L1 → ∀ v, (decide (0 ≤ i.toInt ∧ i.toInt < (T (26 + it N k 0) : Int)) = false ∨ decide (0 ≤ y.toInt ∧ y.toInt < (3 : Nat)) = false → v = -1) → (∀ i' y', i' < T (26 + it N k 0) → y' < 3 → i = nI i' → y = nI y' → v = tel T N (T (31 + 4 * it N k 0 + i')) k y') →
        ∃ I2, mX12_element 433 (nI k) i y (hk σ I1 L1) = some (v, hk σ I2 L1) ∧ FrM I1 L1 I2 L1 := by
      intro I1 L1 hf v hv1 hv2
      have hm1 := hm.frC hf
      unfold mX12_element
      rw [if_pos s433, misCount_ok hm1.2.1 h18, obind, bI_if0, hd, if_neg (by decide), mneeds_ok hm1.1 hm1.2.1 (by omega) (by omega), obind, in_any i (by omega), obind, bI_if0]
      rcases ixn i (T (26 + it N k 0)) (by omega) with ⟨i', hi', rfl, hdi⟩ | hdi
      · rw [hdi, if_neg (by decide), in_2, obind, bI_if0]
        rcases ixn y 3 (by omega) with ⟨y', hy', rfl, hdy⟩ | hdy
        · obtain ⟨I2, e2, f2⟩ := mtells_ok (σ := σ) (L := L1) hm1 hk' (b31 i' hi') hy'
          rw [hdy, if_neg (by decide), mneed_ok hm1.1 hm1.2.1 (by omega) (by omega) (by omega), obind, e2, b2s]
          exact ⟨I2, by rw [hv2 i' y' hi' hy' rfl rfl], f2⟩
        · rw [hdy, if_pos rfl, hv1 (Or.inr hdy)]
          exact ⟨I1, rfl, FrM.rf⟩
      · rw [hdi, if_pos rfl, hv1 (Or.inl hdi)]
        exact ⟨I1, rfl, FrM.rf⟩
    rcases ixn i (T (26 + it N k 0)) (by omega) with ⟨i', hi', rfl, hdi⟩ | hdi
    · rw [if_neg (nI_pos (by omega)), gLa, gR_la hla, obind, RF_la_8 σ hla, ckind_ok h hk', obind, rd, obind, c_lt hi' (by omega), obind, needSlot_nI, obind]
      obtain ⟨d1, d2, d3⟩ := hc3.2.2.2 i' hi'
      rcases ixn y 3 (by omega) with ⟨y', hy', rfl, hdy⟩ | hdy
      · obtain ⟨I1, L1, e1, f1⟩ := cshown_ok h hk' (slot := 4 * it N k 0 + i') (e := T (31 + 4 * it N k 0 + i')) ⟨by omega, b31 i' hi', d1, d2, d3⟩ hy'
        rw [e1, b2s]
        obtain ⟨I2, e2, f2⟩ := mod I1 L1 f1 (tel T N (T (31 + 4 * it N k 0 + i')) k y') (fun hz => by
          rcases hz with z | z
          · rw [hdi] at z; cases z
          · rw [hdy] at z; cases z) (fun i2 y2 hi2 hy2 hei hey => by
          have a := (nI_eq (by omega) (by omega)).mp hei
          have b := (nI_eq (by omega) (by omega)).mp hey
          rw [a, b])
        exact ⟨_, I1, L1, I2, rfl, e2, f1, f2⟩
      · rw [cshown_no h _ _ _ hdy, b2s]
        obtain ⟨I2, e2, f2⟩ := mod I L FrC.rf (-1) (fun _ => rfl) (fun i2 y2 hi2 hy2 _ hey => by
          subst hey
          rw [nI_toInt (by omega)] at hdy
          have := of_decide_eq_false hdy
          omega)
        exact ⟨_, I, L, I2, rfl, e2, FrC.rf, f2⟩
    · obtain ⟨I2, e2, f2⟩ := mod I L FrC.rf (-1) (fun _ => rfl) (fun i2 y2 hi2 hy2 hei _ => by
          subst hei
          rw [nI_toInt (by omega)] at hdi
          have := of_decide_eq_false hdi
          omega)
      refine ⟨_, I, L, I2, ?_, e2, FrC.rf, f2⟩
      by_cases hneg : i < 0
      · rw [if_pos hneg]
      · rw [if_neg hneg, gLa, gR_la hla, obind, RF_la_8 σ hla, ckind_ok h hk', obind, rd, obind]
        obtain ⟨j, hj, rfl⟩ := nI_of hneg
        rw [nI_toInt hj] at hdi
        have := of_decide_eq_false hdi
        rw [c_nlt (by omega) hj]
  · rw [hd, if_pos rfl]
    refine ⟨_, I, L, I, rfl, ?_, FrC.rf, FrM.rf⟩
    unfold mX12_element
    rw [if_pos s433, misCount_ok hm.2.1 h18, obind, bI_if0, hd, if_pos rfl]
end Q2
