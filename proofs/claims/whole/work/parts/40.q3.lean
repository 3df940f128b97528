section Q3
variable {σ : Sg} {I I' : Nat → Nat → Int32} {L L' : Nat → Nat → Int64}
theorem pleaSlot_ok {T N : Nat → Nat} (h : CR σ I L T N) {b : Nat} (hb : b < T 2) (x : Int32) :
    (x < 0 → mX1_pleaSlot (gla σ) (nI b) x (hk σ I L) = some (-1)) ∧ ∀ i, i < 2147483648 → x = nI i → mX1_pleaSlot (gla σ) (nI b) x (hk σ I L) = some (match ith (plq T b) (T 4) i with | some p => nI (20 + p) | none => -1) := by
  obtain ⟨⟨hla, hsa, hSO⟩, hW, hN, hL, hSt⟩ := id h
  obtain ⟨w0, w1, w2, w3, w4, w5, w6, w7⟩ := hW.1
  have h0 : (hpS (hk σ I L) (gla σ)).1 = 2 := by rw [hpS_hk, SH_la0 hla]
  have e4 := hL.1.2.2.2.1
  constructor
  · intro hx
    unfold mX1_pleaSlot mX1_pleaSlot_l5
    rw [if_pos h0]
    refine lp_inr ?_
    show mX1_pleaSlot_l5f (gla σ) (nI b) (hk σ I L) x 0 = _
    unfold mX1_pleaSlot_l5f
    rw [gI_la hla, obind, e4, show (0 : Int32) = nI 0 from rfl]
    by_cases hz : 0 < T 4
    · rw [c_lt hz (by omega), if_pos (show x < nI 0 from hx)]; rfl
    · rw [c_nlt (by omega) (by omega)]; rfl
  · intro i hi hxi
    subst hxi
    unfold mX1_pleaSlot mX1_pleaSlot_l5
    rw [if_pos h0]
    refine lp_up (f := fun s : Int32 × Int32 => mX1_pleaSlot_l5f (gla σ) (nI b) (hk σ I L) s.1 s.2) (T 4) (fun p s => s = (nI (i - cntB (plq T b) p), nI p) ∧ cntB (plq T b) p ≤ i ∧ ∀ j, j < p → (plq T b j && decide (cntB (plq T b) j = i)) = false)
      (fun o => o = some (match ith (plq T b) (T 4) i with | some p => nI (20 + p) | none => -1)) ?_ ?_ (i := 0) (s := (nI i, nI 0)) (Nat.zero_le _) ⟨rfl, Nat.zero_le _, fun j hj => absurd hj (Nat.not_lt_zero _)⟩
    · rintro p s hp' ⟨rfl, hc, hj⟩
      have h1 := (hW.2.2.2.1 p hp').1
      show (∃ t, mX1_pleaSlot_l5f (gla σ) (nI b) (hk σ I L) (nI (i - cntB (plq T b) p)) (nI p) = some (.inl t) ∧ _) ∨ ∃ r, mX1_pleaSlot_l5f (gla σ) (nI b) (hk σ I L) (nI (i - cntB (plq T b) p)) (nI p) = some (.inr r) ∧ _
      unfold mX1_pleaSlot_l5f mX1_pleaSlot_b44
      rw [gI_la hla, obind, e4, c_lt hp' (by omega), if_neg (nI_pos (by omega)), gR_la hla, obind, RF_la_9 σ hla, at_r (SH_la4 hla) (by omega) (by omega), obind, (hL.2.2.2.1 p hp').1, c_eqd (by omega) (by omega), c_0 (by omega)]
      by_cases hq : T (66 + p) = b
      · have hq' : plq T b p = true := decide_eq_true hq
        rw [if_pos hq]
        by_cases hz : i - cntB (plq T b) p = 0
        · have hci : cntB (plq T b) p = i := by omega
          refine Or.inr ⟨nI (20 + p), by rw [if_pos hz, L20, nI_add, xts], ?_⟩
          have : ith (plq T b) (T 4) i = some p := fstB_some.mpr ⟨hp', by rw [hq', decide_eq_true hci]; rfl, hj⟩
          rw [this]
        · refine Or.inl ⟨(nI (i - cntB (plq T b) (p + 1)), nI (p + 1)), ?_, rfl, ?_, fun j hj2 => ?_⟩
          · rw [if_neg hz, nI_m1 (by omega), nI_1]
            simp only [cntB]; rw [hq']; simp [Nat.sub_sub]
          · simp only [cntB]; rw [hq']; simp; omega
          · by_cases ej : j = p
            · subst ej; rw [decide_eq_false (by omega)]; simp
            · exact hj j (by omega)
      · have hq' : plq T b p = false := decide_eq_false hq
        refine Or.inl ⟨(nI (i - cntB (plq T b) (p + 1)), nI (p + 1)), ?_, rfl, ?_, fun j hj2 => ?_⟩
        · rw [if_neg hq, nI_1]
          simp only [cntB]; rw [hq']; simp
        · simp only [cntB]; rw [hq']; simpa using hc
        · by_cases ej : j = p
          · subst ej; rw [hq']; rfl
          · exact hj j (by omega)
    · rintro s ⟨rfl, hc, hj⟩
      refine ⟨-1, ?_, ?_⟩
      · show mX1_pleaSlot_l5f (gla σ) (nI b) (hk σ I L) (nI (i - cntB (plq T b) (T 4))) (nI (T 4)) = _
        unfold mX1_pleaSlot_l5f
        rw [gI_la hla, obind, e4, c_nlt (Nat.le_refl _) (by omega), xts]
      · have : ith (plq T b) (T 4) i = none := fstB_none.mpr hj
        rw [this]
theorem pleasOf_ok {T N : Nat → Nat} (h : CR σ I L T N) {b : Nat} (hb : b < T 2) : mX1_pleasOf (gla σ) (nI b) (hk σ I L) = some (nI (cntB (plq T b) (T 4))) := by
  obtain ⟨⟨hla, hsa, hSO⟩, hW, hN, hL, hSt⟩ := id h
  obtain ⟨w0, w1, w2, w3, w4, w5, w6, w7⟩ := hW.1
  have h0 : (hpS (hk σ I L) (gla σ)).1 = 2 := by rw [hpS_hk, SH_la0 hla]
  have e4 := hL.1.2.2.2.1
  unfold mX1_pleasOf mX1_pleasOf_l4
  rw [if_pos h0]
  refine lp_traj (f := fun s : Int32 × Int32 => mX1_pleasOf_l4f (gla σ) (nI b) (hk σ I L) s.1 s.2) (T 4) (fun p => (nI (cntB (plq T b) p), nI p)) _ (fun p hp => ?_) ?_
  · show mX1_pleasOf_l4f (gla σ) (nI b) (hk σ I L) (nI (cntB (plq T b) p)) (nI p) = _
    have h1 := (hW.2.2.2.1 p hp).1
    unfold mX1_pleasOf_l4f mX1_pleasOf_b30
    rw [gI_la hla, obind, e4, c_lt hp (by omega), gR_la hla, obind, RF_la_9 σ hla, at_r (SH_la4 hla) (by omega) (by omega), obind, (hL.2.2.2.1 p hp).1, c_eqd (by omega) (by omega), nI_1, nI_1, i0, nI_add]
    simp only [cntB]
    by_cases hq : T (66 + p) = b
    · have hq' : plq T b p = true := decide_eq_true hq
      rw [if_pos hq, hq']; rfl
    · have hq' : plq T b p = false := decide_eq_false hq
      rw [if_neg hq, hq']; rfl
  · show mX1_pleasOf_l4f (gla σ) (nI b) (hk σ I L) (nI (cntB (plq T b) (T 4))) (nI (T 4)) = _
    unfold mX1_pleasOf_l4f
    rw [gI_la hla, obind, e4, c_nlt (Nat.le_refl _) (by omega), xts]
/-- bar -/
theorem q_bar {T N : Nat → Nat} (h : CR σ I L T N) (hm : MI I T N) (x i y : Int32) :
    ∃ v I1 L1 I2, mX11_bar 100 x i y (hk σ I L) = some (v, hk σ I1 L1) ∧ mX12_bar 433 x i y (hk σ I1 L1) = some (v, hk σ I2 L1) ∧ FrC I L I1 L1 ∧ FrM I1 L1 I2 L1 := by
  have hla := h.1.1
  have hW := h.2.1
  have h18 := (h.2.2.1.bkH hW).1
  obtain ⟨w0, w1, w2, w3, w4, w5, w6, w7⟩ := hW.1
  have wp := hW.2.2.2.1
  have hcb : ∀ b, cntB (plq T b) (T 4) ≤ T 4 := fun b => cntB_le _ _
  unfold mX11_bar
  rw [if_pos s100, cisCount_ok h, obind, bI_if0]
  rcases ixn x (N 18) (by omega) with ⟨k, hk', rfl, hd⟩ | hd
  · rw [hd, if_neg (by decide)]
    obtain ⟨a0, _⟩ := h.2.2.1.2.2.2.2.1 k hk'
    have hcb0 := hcb (it N k 0)
    have mod : ∀ I1 L1, FrC I L I1 L1 → ∀ v, (decide (0 ≤ i.toInt ∧ i.toInt < (cntB (plq T (it N k 0)) (T 4) : Int)) = false ∨ decide (0 ≤ y.toInt ∧ y.toInt < (3 : Nat)) = false → v = -1) → (∀ i' y' p, ith (plq T (it N k 0)) (T 4) i' = some p → y' < 3 → i' < 7 → i = nI i' → y = nI y' → v = tel T N (T (72 + p)) k y') →
        ∃ I2, mX12_bar 433 (nI k) i y (hk σ I1 L1) = some (v, hk σ I2 L1) ∧ FrM I1 L1 I2 L1 := by
      intro I1 L1 hf v hv1 hv2
      have hm1 := hm.frC hf
      unfold mX12_bar
      rw [if_pos s433, misCount_ok hm1.2.1 h18, obind, bI_if0, hd, if_neg (by decide), mbars_ok hm1.1 hm1.2.1 w4 (fun p hp => ⟨by have := (wp p hp).1; omega, by have := (wp p hp).2; omega⟩) (by omega) (by omega), obind, in_any i (by omega), obind, bI_if0]
      rcases ixn i (cntB (plq T (it N k 0)) (T 4)) (by omega) with ⟨i', hi', rfl, hdi⟩ | hdi
      · rw [hdi, if_neg (by decide), in_2, obind, bI_if0]
        rcases ixn y 3 (by omega) with ⟨y', hy', rfl, hdy⟩ | hdy
        · cases hp : ith (plq T (it N k 0)) (T 4) i' with
          | none => have := ith_none.mp hp; omega
          | some p =>
            have hp4 := (fstB_some.mp hp).1
            obtain ⟨I2, e2, f2⟩ := mtells_ok (σ := σ) (L := L1) hm1 hk' (wp p hp4).2 hy'
            rw [hdy, if_neg (by decide), mbarOf_ok hm1.1 hm1.2.1 w4 (fun p hp => by have := (wp p hp).1; omega) (by omega) (by omega) (by omega), hp, obind, e2, b2s]
            exact ⟨I2, by rw [hv2 i' y' p hp hy' (by omega) rfl rfl], f2⟩
        · rw [hdy, if_pos rfl, hv1 (Or.inr hdy)]
          exact ⟨I1, rfl, FrM.rf⟩
      · rw [hdi, if_pos rfl, hv1 (Or.inl hdi)]
        exact ⟨I1, rfl, FrM.rf⟩
    rw [gLa, ckind_ok h hk', obind]
    obtain ⟨ps1, ps2⟩ := pleaSlot_ok h a0 i
    rcases ix_cases i with hneg | ⟨i', hi', rfl⟩
    · rw [ps1 hneg, obind, if_pos (by decide)]
      have h0 : (0 : Int32).toInt = 0 := rfl
      have hneg' := Int32.lt_iff_toInt_lt.mp hneg
      obtain ⟨I2, e2, f2⟩ := mod I L FrC.rf (-1) (fun _ => rfl) (fun i2 y2 p2 _ _ hi2 hei _ => by
        subst hei
        rw [nI_toInt (by omega)] at hneg'
        omega)
      exact ⟨_, I, L, I2, rfl, e2, FrC.rf, f2⟩
    · rw [ps2 i' hi' rfl]
      cases hp : ith (plq T (it N k 0)) (T 4) i' with
      | none =>
        have hge := ith_none.mp hp
        rw [obind, if_pos (by decide)]
        obtain ⟨I2, e2, f2⟩ := mod I L FrC.rf (-1) (fun _ => rfl) (fun i2 y2 p2 hp2 _ hi2 hei _ => by
          have := (nI_eq hi' (by omega)).mp hei
          subst this
          rw [hp] at hp2; cases hp2)
        exact ⟨_, I, L, I2, rfl, e2, FrC.rf, f2⟩
      | some p =>
        have hp4 := (fstB_some.mp hp).1
        obtain ⟨d1, d2, d3, d4⟩ := h.2.2.2.1.2.2.2.1 p hp4
        rw [obind]
        show ∃ v I1 L1 I2, (if nI (20 + p) < 0 then _ else _) = _ ∧ _
        rw [if_neg (nI_pos (by omega))]
        rcases ixn y 3 (by omega) with ⟨y', hy', rfl, hdy⟩ | hdy
        · obtain ⟨I1, L1, e1, f1⟩ := cshown_ok h hk' (slot := 20 + p) (e := T (72 + p)) ⟨by omega, (wp p hp4).2, d2, d3, d4⟩ hy'
          rw [e1, b2s]
          obtain ⟨I2, e2, f2⟩ := mod I1 L1 f1 (tel T N (T (72 + p)) k y') (fun hz => by
            rcases hz with z | z
            · rw [nI_toInt hi'] at z
              have := of_decide_eq_false z
              have h3 : ¬ cntB (plq T (it N k 0)) (T 4) ≤ i' := fun z2 => by rw [ith_none.mpr z2] at hp; cases hp
              omega
            · rw [hdy] at z; cases z) (fun i2 y2 p2 hp2 hy2 hi2 hei hey => by
            have a := (nI_eq hi' (by omega)).mp hei
            have b := (nI_eq (by omega) (by omega)).mp hey
            subst a b
            rw [hp] at hp2; cases hp2; rfl)
          exact ⟨_, I1, L1, I2, rfl, e2, f1, f2⟩
        · rw [cshown_no h _ _ _ hdy, b2s]
          obtain ⟨I2, e2, f2⟩ := mod I L FrC.rf (-1) (fun _ => rfl) (fun i2 y2 p2 hp2 hy2 hi2 _ hey => by
            subst hey
            rw [nI_toInt (by omega)] at hdy
            have := of_decide_eq_false hdy
            omega)
          exact ⟨_, I, L, I2, rfl, e2, FrC.rf, f2⟩
  · rw [hd, if_pos rfl]
    refine ⟨_, I, L, I, rfl, ?_, FrC.rf, FrM.rf⟩
    unfold mX12_bar
    rw [if_pos s433, misCount_ok hm.2.1 h18, obind, bI_if0, hd, if_pos rfl]
theorem lsw_cases (y : Int32) : y = 0 ∨ y = 1 ∨ (¬ y.toInt = 0 ∧ ¬ y.toInt = 1 ∧ ¬ y = 0 ∧ ¬ y = 1) := by
  by_cases h0 : y = 0
  · exact Or.inl h0
  · by_cases h1 : y = 1
    · exact Or.inr (Or.inl h1)
    · refine Or.inr (Or.inr ⟨fun e => h0 (Int32.toInt_inj.mp e), fun e => h1 (Int32.toInt_inj.mp e), h0, h1⟩)
theorem lsw0 {α : Type} (a b d : α) : lsw 0 [(0, a), (1, b)] d = a := rfl
theorem lsw1 {α : Type} (a b d : α) : lsw 1 [(0, a), (1, b)] d = b := rfl
theorem lswN {α : Type} {y : Int32} (h0 : ¬ y.toInt = 0) (h1 : ¬ y.toInt = 1) (a b d : α) : lsw y [(0, a), (1, b)] d = d := by
  unfold lsw; rw [if_neg h0]; unfold lsw; rw [if_neg h1]; rfl
/-- worlds -/
theorem q_worlds {T N : Nat → Nat} (h : CR σ I L T N) (hm : MI I T N) (y : Int32) :
    ∃ v L1, mX11_worlds 100 y (hk σ I L) = some (v, hk σ I L1) ∧ mX12_worlds 433 y (hk σ I L1) = some v ∧ FrC I L I L1 := by
  have hla := h.1.1
  have ht := hm.2.2.2.2
  unfold mX11_worlds mX12_worlds
  rw [if_pos s100]
  rcases lsw_cases y with rfl | rfl | ⟨h0, h1, h2, h3⟩
  · refine ⟨nI (cntB (poss T) 256), L, ?_, ?_, FrC.rf⟩
    · rw [lsw0, gLa, gR_la hla, obind, RF_la_17 σ hla, size_ok (wPos hla) h.2.2.2.1.2.2.2.2.2.2, obind]
    · rw [if_pos s433, if_pos rfl, show gR 12 24 433 (hk σ I L) = some 444 from rfl, obind, many_ok (a := 444) (n := 8) rfl (by omega) (by omega) ht.1, obind]
  · obtain ⟨r, e, hr⟩ := remember_ok h
    refine ⟨nI (cntB (lft T N) 256), rowUp L 415 r, ?_, ?_, FrC.rf.upL _ (by unfold scC; omega)⟩
    · rw [lsw1, e, obind, gLeft, size_ok (wLeft (σ := σ) (I := I) (L := rowUp L 415 r)) (by rw [hpL_hk'', rowUp_same]; exact hr), obind]
    · rw [if_pos s433, if_neg (by decide), if_pos rfl, show gR 12 27 433 (hk σ I (rowUp L 415 r)) = some 447 from rfl, obind, many_ok (a := 447) (n := 8) rfl (by omega) (by omega) ht.2.2.2, obind]
  · refine ⟨-1, L, by rw [lswN h0 h1], ?_, FrC.rf⟩
    rw [if_pos s433, if_neg h2, if_neg h3]
end Q3
