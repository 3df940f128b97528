section Q2
variable {σ : Sg} {I I' : Nat → Nat → Int32} {L L' : Nat → Nat → Int64}
def slR (σ : Sg) (I : Nat → Nat → Int32) (L : Nat → Nat → Int64) (T : Nat → Nat) (slot e : Nat) : Prop := slot < 26 ∧ e < T 6 ∧ I (gla σ + 8) slot = nI (T (84 + e)) ∧ I (gla σ + 9) slot = nI (T (117 + e)) ∧ Rw (L (gla σ + 17 + 2 * slot)) (ev T e)
def tel (T N : Nat → Nat) (e k y : Nat) : Int32 := if y = 0 then nI (sen T e (it N k 4) (it N k 5)) else if y = 1 then bI (sure T (agr T (it N k 4) (it N k 5)) e) else how3 (lft T N) (ev T e)
theorem tel0 (T N : Nat → Nat) (e k : Nat) : tel T N e k 0 = nI (sen T e (it N k 4) (it N k 5)) := by unfold tel; rw [if_pos rfl]
theorem tel1 (T N : Nat → Nat) (e k : Nat) : tel T N e k 1 = bI (sure T (agr T (it N k 4) (it N k 5)) e) := by unfold tel; rw [if_neg (by decide), if_pos rfl]
theorem tel2 (T N : Nat → Nat) (e k : Nat) : tel T N e k 2 = how3 (lft T N) (ev T e) := by unfold tel; rw [if_neg (by decide), if_neg (by decide)]
theorem WN.say {T N : Nat → Nat} (hW : WT T) (h : WN T N) {k : Nat} (hk' : k < N 18) : it N k 4 < 256 ∧ it N k 5 < 256 ∧ it N k 5 &&& it N k 4 = it N k 5 := by
  have h256 := ev_lt hW.1.2.1
  obtain ⟨n0, n1, n2, n3, n4, n5, _⟩ := h.2.2.2.2.1 k hk'
  have : it N k 5 ≤ it N k 4 := by rw [← n5]; exact Nat.and_le_right
  exact ⟨by omega, by omega, n5⟩
theorem cshown_ok {T N : Nat → Nat} (h : CR σ I L T N) {k slot e y : Nat} (hk' : k < N 18) (hs : slR σ I L T slot e) (hy : y < 3) :
    ∃ I' L', mX11_shown 100 (nI k) (nI slot) (nI y) (hk σ I L) = some (tel T N e k y, hk σ I' L') ∧ FrC I L I' L' := by
  obtain ⟨⟨hla, hsa, hSO⟩, hW, hN, hL, hSt⟩ := id h
  have h18 := (hN.bkH hW).1
  obtain ⟨s1, s2, s3, s4, s5⟩ := hs
  obtain ⟨q4, q5, q45⟩ := hN.say hW hk'
  obtain ⟨hwf, h7⟩ := hW.2.2.2.2.2.1 e s2
  have w7 := hW.1.2.2.2.2.2.2.2
  obtain ⟨_, _, _, _, c5, c6⟩ := hSt.2 k hk'
  unfold mX11_shown
  rw [if_pos s100, tsw_n (by omega)]
  rcases (show y = 0 ∨ y = 1 ∨ y = 2 by omega) with rfl | rfl | rfl
  · obtain ⟨hh, yy, nn, zz, e1⟩ := glance_ok (σ := σ) (I := I) (L := L) hla q4 q5 s1 (cT T) hwf.1 (by omega) hwf.2.1 (by rw [hwf.2.2]; exact Nat.le_refl _) (fun i h1 h2 => hL.2.2.2.2.1 i (by omega)) s3 s4
    refine ⟨rowUp I 108 hh, rowUp (rowUp (rowUp L 109 yy) 110 nn) 111 zz, ?_, ?_⟩
    · rw [td0, show ∀ f : Nat → Option (Int32 × Hp), (gR 11 2 100 (hk σ I L)).bind f = f 108 from fun _ => rfl, gLa, gSa, gR_st hsa, obind, RF_st_13 σ hsa, at_r (SH_st5 hsa) (by omega) (by omega), obind, gSa, gR_st hsa, obind, RF_st_14 σ hsa, at_r (SH_st6 hsa) (by omega) (by omega), obind, c5, c6, e1, b2s, tel0]
      rfl
    · exact (((FrC.rf.upI _ (by unfold scC; omega)).upL _ (by unfold scC; omega)).upL _ (by unfold scC; omega)).upL _ (by unfold scC; omega)
  · obtain ⟨r, e1, hr⟩ := allege_ok h hk'
    refine ⟨I, rowUp L 417 r, ?_, FrC.rf.upL _ (by unfold scC; omega)⟩
    rw [td1, e1, obind, gAll, gLa, table_ok hla (by omega), obind, within_ok (wAll (σ := σ) (I := I) (L := rowUp L 417 r)) (wTab hla (by omega)) (by rw [hpL_hk'', rowUp_same]; exact hr) (by rw [hpL_hk'', rowUp_at, if_neg (by omega)]; exact s5), obind, bI_if0]
    rw [tel1]
    have hsu : allB (fun w => !agr T (it N k 4) (it N k 5) w || ev T e w) 256 = sure T (agr T (it N k 4) (it N k 5)) e := rfl
    rw [hsu]
    cases sure T (agr T (it N k 4) (it N k 5)) e <;> rfl
  · obtain ⟨r, e1, hr⟩ := remember_ok h
    refine ⟨I, rowUp L 415 r, ?_, FrC.rf.upL _ (by unfold scC; omega)⟩
    rw [td2, e1, obind, gLeft, gLa, table_ok hla (by omega), obind, howIn_ok (wLeft (σ := σ) (I := I) (L := rowUp L 415 r)) (wTab hla (by omega)) (by rw [hpL_hk'', rowUp_same]; exact hr) (by rw [hpL_hk'', rowUp_at, if_neg (by omega)]; exact s5), obind, tel2]
theorem cshown_no {T N : Nat → Nat} (h : CR σ I L T N) (x s y : Int32) (hy : decide (0 ≤ y.toInt ∧ y.toInt < (3 : Nat)) = false) : mX11_shown 100 x s y (hk σ I L) = some (-1, hk σ I L) := by
  unfold mX11_shown
  rw [if_pos s100]
  rcases ix_cases y with hy' | ⟨j, hj, rfl⟩
  · rw [tsw_neg hy']
  · rw [nI_toInt hj] at hy
    have := of_decide_eq_false hy
    rw [tsw_n hj, tdN (by simp; omega)]
theorem how3_m {f g : Nat → Bool} (hne : anyB f 256 = true) : how3 f g = if cntB (fun w => f w && g w) 256 = 0 then 0 else if cntB (fun w => f w && g w) 256 = cntB f 256 then 1 else 2 := by
  unfold how3
  by_cases h1 : allB (fun w => !f w || g w) 256 = true
  · have h2 := (cnt_sub f g 256).mpr h1
    have h3 : ¬ cntB f 256 = 0 := fun z => by have := cntB_0.mp z; rw [hne] at this; cases this
    rw [if_pos h1, if_neg (by rw [h2]; exact h3), if_pos h2]
  · rw [if_neg h1]
    have h2 : ¬ cntB (fun w => f w && g w) 256 = cntB f 256 := fun z => h1 ((cnt_sub f g 256).mp z)
    by_cases h3 : cntB (fun w => f w && g w) 256 = 0
    · rw [if_pos h3]
      have := cntB_0.mp h3
      rw [this]; rfl
    · rw [if_neg h3, if_neg h2]
      have : anyB (fun w => f w && g w) 256 = true := by
        cases hb : anyB (fun w => f w && g w) 256
        · exact absurd (cntB_0.mpr hb) h3
        · rfl
      rw [this]; rfl
theorem WN.any {T N : Nat → Nat} (h : WN T N) : anyB (lft T N) 256 = true := by
  obtain ⟨w, h1, h2⟩ := h.2.2.2.2.2
  exact anyB_iff.mpr ⟨w, h1, h2⟩
theorem dec_and {T N : Nat → Nat} (g : Nat → Bool) : (fun w => lft T N w && (decide (w < 2 ^ T 1) && g w)) = fun w => lft T N w && g w := by
  funext w
  cases hl : lft T N w
  · rfl
  · rw [decide_eq_true (lft_lt hl)]; rfl
end Q2
