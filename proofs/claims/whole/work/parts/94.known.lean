section Known
variable {σ : Sg} {I I' J J' I1 I2 I3 Ja : Nat → Nat → Int32} {L L' M M' L1 L2 : Nat → Nat → Int64} {X : Nat → Nat} {n m i la t1 t2 fl pl : Nat} {W : Nat → List Nat}
theorem mwd_wrd (X : Nat → Nat) (n b : Nat) : ∃ l, wrd l ∧ mwd X n b = pk27 l := by
  unfold mwd
  by_cases h : n ≤ b
  · exact ⟨[], ⟨by decide, fun c hc => by cases hc⟩, by rw [if_pos h]; rfl⟩
  · rw [if_neg h]
    by_cases q : bet X 97 122 b = true
    · refine ⟨lts X b (min 6 (we X n b - b)), ⟨by rw [lts_len]; omega, lts_in (fun i h1 h2 => rn_in (ok := bet X 97 122) (n := n) (p := b) h1 (show i < we X n b by omega))⟩, by rw [if_pos q]⟩
    · exact ⟨[], ⟨by decide, fun c hc => by cases hc⟩, by rw [if_neg q]; rfl⟩
theorem mfact_any (h1 : J 435 1 = nI t1) (h8 : t1 ≤ 8) : ∃ v, mX12_factNamed 433 (hk σ J M) = some v := by
  have l1 : ldI 435 (1 : Int32) (hk σ J M) = some (nI t1) := by rw [show (1 : Int32) = nI 1 from rfl, ldI_ok (n := 640) rfl (by omega) (by omega), hpI_hk, h1]
  unfold mX12_factNamed mX12_factNamed_l2
  rw [if_pos s433]
  refine ⟨_, lp_first (f := fun s : Int32 => mX12_factNamed_l2f 433 (hk σ J M) s) t1 (fun f => nI f) (fun f => decide (lg_cmp (M 437 f) (M 433 21) = 0)) (fun f => nI f) (-1 : Int32) (fun f hf hp => ?_) (fun f hf hp => ?_) ?_⟩
  · show mX12_factNamed_l2f 433 (hk σ J M) (nI f) = _
    unfold mX12_factNamed_l2f
    rw [gM 1, RF_433_1, l1, obind, c_lt hf (by omega), gM 3, RF_433_3, ldL_ok (n := 13) rfl (by omega) (by omega), obind, hpL_hk'', gML, obind, if_neg (of_decide_eq_false hp), nI_1]
  · show mX12_factNamed_l2f 433 (hk σ J M) (nI f) = _
    unfold mX12_factNamed_l2f
    rw [gM 1, RF_433_1, l1, obind, c_lt hf (by omega), gM 3, RF_433_3, ldL_ok (n := 13) rfl (by omega) (by omega), obind, hpL_hk'', gML, obind, if_pos (of_decide_eq_true hp), xts]
  · show mX12_factNamed_l2f 433 (hk σ J M) (nI t1) = _
    unfold mX12_factNamed_l2f
    rw [gM 1, RF_433_1, l1, obind, c_nlt (Nat.le_refl _) (by omega), xts]
theorem mcount_any (h1 : J 435 2 = nI t2) (h5 : t2 ≤ 5) : ∃ v, mX12_countNamed 433 (hk σ J M) = some v := by
  have l1 : ldI 435 (2 : Int32) (hk σ J M) = some (nI t2) := by rw [show (2 : Int32) = nI 2 from rfl, ldI_ok (n := 640) rfl (by omega) (by omega), hpI_hk, h1]
  unfold mX12_countNamed mX12_countNamed_l2
  rw [if_pos s433]
  refine ⟨_, lp_first (f := fun s : Int32 => mX12_countNamed_l2f 433 (hk σ J M) s) t2 (fun f => nI f) (fun f => decide (lg_cmp (M 437 (8 + f)) (M 433 21) = 0)) (fun f => nI f) (-1 : Int32) (fun f hf hp => ?_) (fun f hf hp => ?_) ?_⟩
  · show mX12_countNamed_l2f 433 (hk σ J M) (nI f) = _
    unfold mX12_countNamed_l2f
    rw [gM 1, RF_433_1, l1, obind, c_lt hf (by omega), gM 3, RF_433_3, show (8 : Int32) = nI 8 from rfl, nI_add, ldL_ok (n := 13) rfl (by omega) (by omega), obind, hpL_hk'', gML, obind, if_neg (of_decide_eq_false hp), nI_1]
  · show mX12_countNamed_l2f 433 (hk σ J M) (nI f) = _
    unfold mX12_countNamed_l2f
    rw [gM 1, RF_433_1, l1, obind, c_lt hf (by omega), gM 3, RF_433_3, show (8 : Int32) = nI 8 from rfl, nI_add, ldL_ok (n := 13) rfl (by omega) (by omega), obind, hpL_hk'', gML, obind, if_pos (of_decide_eq_true hp), xts]
  · show mX12_countNamed_l2f 433 (hk σ J M) (nI t2) = _
    unfold mX12_countNamed_l2f
    rw [gM 1, RF_433_1, l1, obind, c_nlt (Nat.le_refl _) (by omega), xts]
theorem isName_bad (h : MFl J fl pl) : ∃ b : Bool, mX12_isName 433 (hk σ J M) = some (bI b) := by
  unfold mX12_isName
  rw [if_pos s433, gMI, obind]
  by_cases q : J 433 14 = 2
  · refine ⟨true, ?_⟩
    rw [if_pos q]
    simp only [isWord_bad h.ne, obind]
    rfl
  · exact ⟨false, by rw [if_neg q]; rfl⟩
theorem b12_bad (h : MFl J fl pl) (h1 : J 435 1 = nI t1) (h8 : t1 ≤ 8) (h2 : J 435 2 = nI t2) (h5 : t2 ≤ 5) (x : Int32) : mX12_here_b12 433 x (hk σ J M) = some (0, hk σ J M) := by
  obtain ⟨v1, e1⟩ := mfact_any (σ := σ) (M := M) h1 h8
  obtain ⟨v2, e2⟩ := mcount_any (σ := σ) (M := M) h2 h5
  have b27 : ∀ v, mX12_here_b27 433 v (hk σ J M) = some (0, hk σ J M) := fun v => by
    unfold mX12_here_b27 mX12_here_b38
    rw [wrong_bad h, obind, gMI, obind, if_neg h.ne]
    by_cases q : v = -1
    · rw [if_pos q]
    · rw [if_neg q]
  unfold mX12_here_b12
  by_cases q : x = 0
  · rw [if_pos q, e2, obind, b27]
  · rw [if_neg q, e1, obind, b27]
theorem b12_badT (h : MFl J fl pl) (h1 : J 435 1 = nI t1) (h8 : t1 ≤ 8) : mX12_here_b12 433 (1 : Int32) (hk σ J M) = some (0, hk σ J M) := by
  obtain ⟨v1, e1⟩ := mfact_any (σ := σ) (M := M) h1 h8
  have b27 : ∀ v, mX12_here_b27 433 v (hk σ J M) = some (0, hk σ J M) := fun v => by
    unfold mX12_here_b27 mX12_here_b38
    rw [wrong_bad h, obind, gMI, obind, if_neg h.ne]
    by_cases q : v = -1
    · rw [if_pos q]
    · rw [if_neg q]
  unfold mX12_here_b12
  rw [if_neg (show ¬ (1 : Int32) = 0 by decide), e1, obind, b27]
theorem here_bad (h : MFl J fl pl) (h1 : J 435 1 = nI t1) (h8 : t1 ≤ 8) (h2 : J 435 2 = nI t2) (h5 : t2 ≤ 5) (x : Int32) : mX12_here 433 x (hk σ J M) = some (0, hk σ J M) := by
  obtain ⟨b, e⟩ := isName_bad (σ := σ) (M := M) h
  unfold mX12_here
  rw [if_pos s433, e, obind, wrong_bad h, obind, b12_bad h h1 h8 h2 h5]
  cases b <;> rfl
theorem known_bad (h : MFl J fl pl) (h1 : J 435 1 = nI t1) (h8 : t1 ≤ 8) (h2 : J 435 2 = nI t2) (h5 : t2 ≤ 5) (x : Int32) : mX12_known 433 x (hk σ J M) = some (0, hk σ J M) := by
  unfold mX12_known
  rw [if_pos s433, here_bad h h1 h8 h2 h5, b2s, passes_bad h, obind]
theorem newName_bad (h : MFl J fl pl) (h1 : J 435 1 = nI t1) (h8 : t1 ≤ 8) (h2 : J 435 2 = nI t2) (h5 : t2 ≤ 5) (x : Int32) : mX12_newName 433 x (hk σ J M) = some (hk σ J M) := by
  obtain ⟨b, e⟩ := isName_bad (σ := σ) (M := M) h
  obtain ⟨v1, e1⟩ := mfact_any (σ := σ) (M := M) h1 h8
  obtain ⟨v2, e2⟩ := mcount_any (σ := σ) (M := M) h2 h5
  have b33 : mX12_newName_b33 433 x (hk σ J M) = some (hk σ J M) := by
    unfold mX12_newName_b33 mX12_newName_b50
    rw [gMI, obind, if_neg h.ne, passes_bad h, obind]
  have b12 : mX12_newName_b12 433 x (hk σ J M) = some (hk σ J M) := by
    unfold mX12_newName_b12 mX12_newName_b28
    rw [e1, obind, e2, obind, wrong_bad h, obind, b33]
    by_cases q : v1 = -1
    · rw [if_pos q]
      by_cases q2 : v2 = -1
      · rw [if_pos q2]
      · rw [if_neg q2]
    · rw [if_neg q]
  unfold mX12_newName
  rw [if_pos s433, e, obind, wrong_bad h, obind, b12]
  cases b <;> rfl
theorem in_some (x lo hi : Int32) : ∃ b : Bool, mX12_in x lo hi = some (bI b) := by
  unfold mX12_in
  by_cases h1 : x < lo
  · exact ⟨false, by rw [if_pos h1]; rfl⟩
  · by_cases h2 : hi < x
    · exact ⟨false, by rw [if_neg h1, if_pos h2]; rfl⟩
    · exact ⟨true, by rw [if_neg h1, if_neg h2]; rfl⟩
theorem number_bad (h : MFl J fl pl) (a b : Int32) : mX12_number 433 a b (hk σ J M) = some (J 433 15, hk σ J M) := by
  have b33 : mX12_number_b33 433 (hk σ J M) = some (J 433 15, hk σ J M) := by
    unfold mX12_number_b33
    rw [gMI, obind, passes_bad h, obind]
  obtain ⟨c, e⟩ := in_some (J 433 15) a b
  unfold mX12_number
  rw [if_pos s433, gMI, obind, gMI, obind, e, obind, wrong_bad h, obind, wrong_bad h, obind, b33]
  by_cases q : J 433 14 = 3
  · rw [if_pos q]; cases c <;> rfl
  · rw [if_neg q]
theorem step_bad (h : MFl J fl pl) (a b : Int32) : mX12_step 433 a b (hk σ J M) = some (hk σ J M) := by
  unfold mX12_step
  rw [if_pos s433, gMI, obind, if_neg h.ne]
/-- a fact or COUNT that is known, where the model stays -/
theorem mhere_ok (hm : PMk J M X n i) (hM : MN J M t1 t2 W) (x : Bool) (hx : x = false → W 13 = []) :
    (∀ l, wrd l → ck X n (pz X n i) = 2 → mwd X n (pz X n i) = pk27 l → ∀ j, (if x = true then fstB (fun f => decide (W f = l)) t1 else fstB (fun k => decide (W (8 + k) = l)) t2) = some j → mX12_here 433 (bI x) (hk σ J M) = some (nI j, hk σ J M)) ∧
    (∀ l, wrd l → ck X n (pz X n i) = 2 → mwd X n (pz X n i) = pk27 l → (if x = true then fstB (fun f => decide (W f = l)) t1 else fstB (fun k => decide (W (8 + k) = l)) t2) = none → ∃ J', mX12_here 433 (bI x) (hk σ J M) = some (0, hk σ J' M) ∧ MFl J' 3 (pz X n i) ∧ MF2 J M J' M) ∧
    (ck X n (pz X n i) ≠ 2 → ∃ J', mX12_here 433 (bI x) (hk σ J M) = some (0, hk σ J' M) ∧ MFl J' 1 (pz X n i) ∧ MF2 J M J' M) := by
  have key : ∀ l, wrd l → ck X n (pz X n i) = 2 → mwd X n (pz X n i) = pk27 l → mX12_here 433 (bI x) (hk σ J M) = mX12_here_b27 433 (oI (if x = true then fstB (fun f => decide (W f = l)) t1 else fstB (fun k => decide (W (8 + k) = l)) t2)) (hk σ J M) := by
    intro l hl h2 hw
    have e21 : M 433 21 = lN (pk27 l) := by rw [hm.2.1.2.2.2.2, hw]
    unfold mX12_here mX12_here_b12
    rw [if_pos s433, isName_ok hm.2.1 hm.2.2, obind, decide_eq_true h2, if_neg (by decide)]
    cases x
    · rw [mcount_ok (hx rfl) hM hl e21, obind]; rfl
    · rw [mfact_ok hM hl e21, obind]; rfl
  refine ⟨fun l hl h2 hw j hj => ?_, fun l hl h2 hw hj => ?_, fun h2 => ?_⟩
  · rw [key l hl h2 hw, hj]
    have : j < 100 := by
      cases x
      · have := (fstB_some.mp hj).1; have := hM.2.1; omega
      · have := (fstB_some.mp hj).1; have := hM.1; omega
    unfold oI mX12_here_b27 mX12_here_b38
    rw [if_neg (nI_nm1 (by omega)), gMI, obind, if_pos hm.2.2]
  · obtain ⟨u, e, r1, r2⟩ := wrong_ok (σ := σ) hm (f := 3) (by omega) (by omega)
    have e : mX12_wrong 433 (3 : Int32) (hk σ J M) = some (hk σ (rowUp J 433 u) M) := e
    rw [if_neg (by omega)] at r1
    refine ⟨_, ?_, r1, r2⟩
    rw [key l hl h2 hw, hj]
    unfold oI mX12_here_b27 mX12_here_b38
    rw [if_pos rfl, e, obind, gMI, obind, if_neg r1.ne]
  · obtain ⟨u, e, r1, r2⟩ := wrong_ok (σ := σ) hm (f := 1) (by omega) (by omega)
    have e : mX12_wrong 433 (1 : Int32) (hk σ J M) = some (hk σ (rowUp J 433 u) M) := e
    have r1 : MFl (rowUp J 433 u) 1 (pz X n i) := by simpa using r1
    refine ⟨_, ?_, r1, r2⟩
    unfold mX12_here
    rw [if_pos s433, isName_ok hm.2.1 hm.2.2, obind, decide_eq_false h2, if_pos (show bI false = 0 from rfl), e, obind]
    cases x
    · exact b12_bad r1 (by rw [r2.2.1]; exact hM.2.2.1) hM.1 (by rw [r2.2.1]; exact hM.2.2.2.1 (hx rfl)) hM.2.1 _
    · exact b12_badT r1 (by rw [r2.2.1]; exact hM.2.2.1) hM.1
end Known
