section Q4
variable {σ : Sg} {I I' : Nat → Nat → Int32} {L L' : Nat → Nat → Int64}
theorem agr2 {A B a b w : Nat} (ha : a &&& A = a) (hb : b &&& B = b) : (w &&& A = a ∧ w &&& B = b) ↔ (a &&& (A &&& B) = b &&& (A &&& B) ∧ w &&& (A ||| B) = a ||| b) := by
  have ea : ∀ i, a.testBit i = (a.testBit i && A.testBit i) := fun i => by conv => lhs; rw [← ha, Nat.testBit_and]
  have eb : ∀ i, b.testBit i = (b.testBit i && B.testBit i) := fun i => by conv => lhs; rw [← hb, Nat.testBit_and]
  constructor
  · rintro ⟨h1, h2⟩
    constructor
    · apply Nat.eq_of_testBit_eq; intro i
      rw [← h1, ← h2]
      simp only [Nat.testBit_and]
      cases w.testBit i <;> cases A.testBit i <;> cases B.testBit i <;> rfl
    · rw [← h1, ← h2]
      apply Nat.eq_of_testBit_eq; intro i
      simp only [Nat.testBit_and, Nat.testBit_or]
      cases w.testBit i <;> cases A.testBit i <;> cases B.testBit i <;> rfl
  · rintro ⟨h1, h2⟩
    have t1 : ∀ i, (a.testBit i && (A.testBit i && B.testBit i)) = (b.testBit i && (A.testBit i && B.testBit i)) := fun i => by
      have := congrArg (fun x => x.testBit i) h1
      simpa only [Nat.testBit_and] using this
    have t2 : ∀ i, (w.testBit i && (A.testBit i || B.testBit i)) = (a.testBit i || b.testBit i) := fun i => by
      have := congrArg (fun x => x.testBit i) h2
      simpa only [Nat.testBit_and, Nat.testBit_or] using this
    constructor
    · apply Nat.eq_of_testBit_eq; intro i
      rw [Nat.testBit_and]
      have a1 := ea i; have b1 := eb i; have c1 := t1 i; have d1 := t2 i
      revert a1 b1 c1 d1
      cases w.testBit i <;> cases A.testBit i <;> cases B.testBit i <;> cases a.testBit i <;> cases b.testBit i <;> decide
    · apply Nat.eq_of_testBit_eq; intro i
      rw [Nat.testBit_and]
      have a1 := ea i; have b1 := eb i; have c1 := t1 i; have d1 := t2 i
      revert a1 b1 c1 d1
      cases w.testBit i <;> cases A.testBit i <;> cases B.testBit i <;> cases a.testBit i <;> cases b.testBit i <;> decide
theorem nx_or_lt {a b : Nat} (ha : a < 256) (hb : b < 256) : a ||| b < 256 := Nat.or_lt_two_pow (n := 8) ha hb
/-- clash -/
theorem q_clash {T N : Nat → Nat} (h : CR σ I L T N) (hm : MI I T N) (x y : Int32) :
    ∃ v L1 I2, mX11_clash 100 x y (hk σ I L) = some (v, hk σ I L1) ∧ mX12_clash 433 x y (hk σ I L1) = some (v, hk σ I2 L1) ∧ FrC I L I L1 ∧ FrM I L1 I2 L1 := by
  have hW := h.2.1
  have h18 := (h.2.2.1.bkH hW).1
  have hsa := h.1.2.1
  unfold mX11_clash mX12_clash
  rw [if_pos s100, cisCount_ok h, obind, bI_if0]
  rcases ixn x (N 18) (by omega) with ⟨a, ha, rfl, hd⟩ | hd
  · rw [cisCount_ok h, obind, bI_if0]
    rcases ixn y (N 18) (by omega) with ⟨b, hb, rfl, hd2⟩ | hd2
    · obtain ⟨a4, a5, a45⟩ := h.2.2.1.say hW ha
      obtain ⟨b4, b5, b45⟩ := h.2.2.1.say hW hb
      obtain ⟨r, e1, hr⟩ := allege_ok h ha
      have h2 : CR σ I (rowUp L 417 r) T N := h.upL (by omega)
      obtain ⟨r', e2, hr'⟩ := agree_ok (σ := σ) (I := I) (L := rowUp L 417 r) h2.1.2.2 (a := 416) (p := 417) wAll (by decide) (by rw [rowUp_same]; exact hr) (nI (it N b 4)) (nI (it N b 5))
      rw [rowUp_two] at e2
      obtain ⟨_, _, _, _, s5, s6⟩ := h2.2.2.2.2.2 b hb
      have hm1 : MI I T N := hm
      have hc : Rm (I 444) 0 (poss T) := hm.2.2.2.2.1
      obtain ⟨q, e3, hq⟩ := laysAgreed_ok (σ := σ) (I := I) (L := rowUp L 417 r') (a := 448) (c := poss T) rfl (by decide) (nx_or_lt a4 b4) (nx_or_lt a5 b5) hc
      have hm2 : MI (rowUp I 448 q) T N := hm.up (by decide) (by decide) (by omega)
      have key : anyB (fun w => agr T (it N a 4) (it N a 5) w && agN (nI (it N b 4)) (nI (it N b 5)) w 8) 256 = (decide (it N a 5 &&& (it N a 4 &&& it N b 4) = it N b 5 &&& (it N a 4 &&& it N b 4)) && anyB (agr T (it N a 4 ||| it N b 4) (it N a 5 ||| it N b 5)) 256) := by
        have pt : ∀ w, (agr T (it N a 4) (it N a 5) w && agN (nI (it N b 4)) (nI (it N b 5)) w 8) = (decide (it N a 5 &&& (it N a 4 &&& it N b 4) = it N b 5 &&& (it N a 4 &&& it N b 4)) && agr T (it N a 4 ||| it N b 4) (it N a 5 ||| it N b 5) w) := fun w => by
          rw [agN_n b4 b5, b45]
          unfold agr
          have := agr2 (w := w) a45 b45
          by_cases h1 : w &&& it N a 4 = it N a 5 ∧ w &&& it N b 4 = it N b 5
          · obtain ⟨h3, h4⟩ := this.mp h1
            simp [h1.1, h1.2, h3, h4]
          · have h5 : ¬ (it N a 5 &&& (it N a 4 &&& it N b 4) = it N b 5 &&& (it N a 4 &&& it N b 4) ∧ w &&& (it N a 4 ||| it N b 4) = it N a 5 ||| it N b 5) := fun z => h1 (this.mpr z)
            cases poss T w
            · simp
            · simp only [Bool.true_and]
              rw [← Bool.decide_and, ← Bool.decide_and, decide_eq_false h1, decide_eq_false h5]
        rw [anyB_congr fun w _ => pt w]
        cases decide (it N a 5 &&& (it N a 4 &&& it N b 4) = it N b 5 &&& (it N a 4 &&& it N b 4))
        · simp only [Bool.false_and]
          cases hz : anyB (fun _ => false) 256
          · rfl
          · obtain ⟨w, _, hw⟩ := anyB_iff.mp hz; cases hw
        · simp only [Bool.true_and]
      have na : it N a 5 &&& (it N a 4 &&& it N b 4) < 256 := Nat.lt_of_le_of_lt Nat.and_le_left a5
      have nb : it N b 5 &&& (it N a 4 &&& it N b 4) < 256 := Nat.lt_of_le_of_lt Nat.and_le_left b5
      have l256 := cntB_le (agr T (it N a 4 ||| it N b 4) (it N a 5 ||| it N b 5)) 256
      refine ⟨bI (!anyB (fun w => agr T (it N a 4) (it N a 5) w && agN (nI (it N b 4)) (nI (it N b 5)) w 8) 256), rowUp L 417 r', rowUp I 448 q, ?_, ?_, FrC.rf.upL _ (by unfold scC; omega), FrM.rf.upI _ (by unfold scM; omega)⟩
      · rw [hd, if_neg (by decide), hd2, if_neg (by decide), e1, obind, gAll, gSa, gR_st hsa, obind, RF_st_13 σ hsa, at_r (SH_st5 hsa) (by omega) (by omega), obind, gSa, gR_st hsa, obind, RF_st_14 σ hsa, at_r (SH_st6 hsa) (by omega) (by omega), obind, s5, s6, e2, obind, gAll, isEmpty_ok (wAll (σ := σ) (I := I) (L := rowUp L 417 r')) (by rw [hpL_hk'', rowUp_same]; exact hr'), obind, bI_if0]
        cases anyB (fun w => agr T (it N a 4) (it N a 5) w && agN (nI (it N b 4)) (nI (it N b 5)) w 8) 256 <;> rfl
      · rw [if_pos s433, misCount_ok hm.2.1 h18, obind, bI_if0, hd, if_neg (by decide), misCount_ok hm.2.1 h18, obind, bI_if0, hd2, if_neg (by decide), its_4 hm.2.1 (by omega), obind, its_4 hm.2.1 (by omega), obind, show gR 12 28 433 (hk σ I (rowUp L 417 r')) = some 448 from rfl, obind, obind, obind, its_5 hm.2.1 (by omega), obind, its_5 hm.2.1 (by omega), obind, nx_or, nx_or, e3, obind, its_5 hm2.2.1 (by omega), obind, its_5 hm2.2.1 (by omega), obind, nx_and, nx_and, nx_and, c_eqd (by omega) (by omega), show gR 12 28 433 (hk σ (rowUp I 448 q) (rowUp L 417 r')) = some 448 from rfl, obind, many_ok (a := 448) (n := 8) (f := agr T (it N a 4 ||| it N b 4) (it N a 5 ||| it N b 5)) rfl (by omega) (by omega) (by rw [rowUp_same]; exact hq), obind, c_0 (by omega), key]
        by_cases hcf : it N a 5 &&& (it N a 4 &&& it N b 4) = it N b 5 &&& (it N a 4 &&& it N b 4)
        · rw [if_pos hcf, decide_eq_true hcf, Bool.true_and]
          by_cases hz : anyB (agr T (it N a 4 ||| it N b 4) (it N a 5 ||| it N b 5)) 256 = false
          · rw [if_pos (cntB_0.mpr hz), hz]; rfl
          · rw [if_neg (fun z => hz (cntB_0.mp z))]
            have : anyB (agr T (it N a 4 ||| it N b 4) (it N a 5 ||| it N b 5)) 256 = true := by simpa using hz
            rw [this]; rfl
        · rw [if_neg hcf, decide_eq_false hcf]; rfl
    · refine ⟨-1, L, I, ?_, ?_, FrC.rf, FrM.rf⟩
      · rw [hd, if_neg (by decide), hd2, if_pos rfl]
      · rw [if_pos s433, misCount_ok hm.2.1 h18, obind, bI_if0, hd, if_neg (by decide), misCount_ok hm.2.1 h18, obind, bI_if0, hd2, if_pos rfl]
  · refine ⟨-1, L, I, ?_, ?_, FrC.rf, FrM.rf⟩
    · rw [hd, if_pos rfl]
    · rw [if_pos s433, misCount_ok hm.2.1 h18, obind, bI_if0, hd, if_pos rfl]
theorem CR.wonR {T N : Nat → Nat} (h : CR σ I L T N) {k : Nat} (hk' : k < N 18) : isW (hk σ I L) (gla σ + 16 + 2 * (26 + it N k 0)) (gla σ + 17 + 2 * (26 + it N k 0)) ∧ Rw (L (gla σ + 17 + 2 * (26 + it N k 0))) (won T (it N k 0)) ∧ mX1_wonBy (gla σ) (nI (it N k 0)) (hk σ I L) = some (gla σ + 16 + 2 * (26 + it N k 0)) := by
  have a0 := (h.2.2.1.2.2.2.2.1 k hk').1
  have w2 := h.2.1.1.2.2.1
  exact ⟨wTab h.1.1 (by omega), (h.2.2.2.1.2.2.1 _ a0).2.2.1, wonBy_ok h.1.1 (by omega)⟩
theorem MI.won {T N : Nat → Nat} (h : MI I T N) {k w : Nat} (hk' : k < N 18) (hw : w < 256) : mX12_isWon 433 (nI k) (nI w) (hk σ I L) = some (bI (decide (w < 2 ^ T 1) && won T (it N k 0) w)) := by
  have a0 := (h.2.2.2.1.2.2.2.2.1 k hk').1
  have w2 := h.2.2.1.1.2.2.1
  have h18 := h.2.2.2.1.2.2.2.1.2
  rw [misWon_ok h.2.1 (by omega) (by omega) (h.2.2.2.2.2.2.1 _ a0) hw]
theorem MI.left {T N : Nat → Nat} (h : MI I T N) {w : Nat} (hw : w < 256) : mX12_isLeft 433 (nI w) (hk σ I L) = some (bI (lft T N w)) := misLeft_ok h.2.2.2.2.2.2.2 hw
/-- implied -/
theorem q_implied {T N : Nat → Nat} (h : CR σ I L T N) (hm : MI I T N) (x y : Int32) :
    ∃ v L1, mX11_implied 100 x y (hk σ I L) = some (v, hk σ I L1) ∧ mX12_implied 433 x y (hk σ I L1) = some v ∧ FrC I L I L1 := by
  have hW := h.2.1
  have h18 := (h.2.2.1.bkH hW).1
  have hla := h.1.1
  unfold mX11_implied mX12_implied
  rw [if_pos s100, cisCount_ok h, obind, bI_if0]
  rcases ixn x (N 18) (by omega) with ⟨a, ha, rfl, hd⟩ | hd
  · rw [cisCount_ok h, obind, bI_if0]
    rcases ixn y (N 18) (by omega) with ⟨b, hb, rfl, hd2⟩ | hd2
    · obtain ⟨r, e1, hr⟩ := remember_ok h
      have h2 : CR σ I (rowUp L 415 r) T N := h.upL (by omega)
      obtain ⟨w1, w2, w3⟩ := h2.wonR ha
      have a0 := (h.2.2.1.2.2.2.2.1 a ha).1
      have wk2 := hW.1.2.2.1
      obtain ⟨r', e2, hr'⟩ := and_ok (wLeft (σ := σ) (I := I) (L := rowUp L 415 r)) w1 (by omega) (by rw [hpL_hk'', rowUp_same]; exact hr) (by rw [hpL_hk'']; exact w2)
      rw [setL_hk, rowUp_two] at e2
      have h3 : CR σ I (rowUp L 415 r') T N := h.upL (by omega)
      obtain ⟨v1, v2, v3⟩ := h3.wonR hb
      refine ⟨bI (allB (fun w => !(lft T N w && won T (it N a 0) w) || won T (it N b 0) w) 256), rowUp L 415 r', ?_, ?_, FrC.rf.upL _ (by unfold scC; omega)⟩
      · rw [hd, if_neg (by decide), hd2, if_neg (by decide), e1, obind, gLeft, gLa, ckind_ok h2 ha, obind, w3, obind, e2, obind, gLeft, gLa, ckind_ok h3 hb, obind, v3, obind, within_ok (wLeft (σ := σ) (I := I) (L := rowUp L 415 r')) v1 (by rw [hpL_hk'', rowUp_same]; exact hr') (by rw [hpL_hk'']; exact v2), obind, bI_if0]
        cases allB (fun w => !(lft T N w && won T (it N a 0) w) || won T (it N b 0) w) 256 <;> rfl
      · rw [if_pos s433, misCount_ok hm.2.1 h18, obind, bI_if0, hd, if_neg (by decide), misCount_ok hm.2.1 h18, obind, bI_if0, hd2, if_neg (by decide)]
        unfold mX12_implied_l20
        have body : ∀ w, w < 256 → ∀ b', (!(lft T N w && won T (it N a 0) w) || won T (it N b 0) w) = b' → mX12_implied_l20f 433 (nI a) (nI b) (hk σ I (rowUp L 415 r')) (nI w) = if b' = true then some (.inl (nI (w + 1))) else some (.inr 0) := by
          intro w hw b' hb'
          unfold mX12_implied_l20f mX12_implied_b55
          rw [show (256 : Int32) = nI 256 from rfl, c_lt hw (by omega), hm.left hw, obind, bI_if0, hm.won ha hw, obind, bI_if0, hm.won hb hw, obind, bI_if0, nI_1]
          subst hb'
          cases hl : lft T N w
          · rfl
          · rw [decide_eq_true (lft_lt hl)]
            cases won T (it N a 0) w <;> cases won T (it N b 0) w <;> rfl
        have key := lp_all (f := fun s : Int32 => mX12_implied_l20f 433 (nI a) (nI b) (hk σ I (rowUp L 415 r')) s) 256 (fun i => nI i) (fun w => !(lft T N w && won T (it N a 0) w) || won T (it N b 0) w) (0 : Int32) 1
          (fun i hi hp => by have := body i hi _ hp; rw [if_pos rfl] at this; exact this) (fun i hi hp => by have := body i hi _ hp; rw [if_neg (by decide)] at this; exact this) (by
            show mX12_implied_l20f 433 (nI a) (nI b) (hk σ I (rowUp L 415 r')) (nI 256) = _
            unfold mX12_implied_l20f
            rw [if_neg (by decide)]; rfl)
        rw [show (0 : Int32) = nI 0 from rfl] at key ⊢
        rw [key]
        cases allB (fun w => !(lft T N w && won T (it N a 0) w) || won T (it N b 0) w) 256 <;> rfl
    · refine ⟨-1, L, ?_, ?_, FrC.rf⟩
      · rw [hd, if_neg (by decide), hd2, if_pos rfl]
      · rw [if_pos s433, misCount_ok hm.2.1 h18, obind, bI_if0, hd, if_neg (by decide), misCount_ok hm.2.1 h18, obind, bI_if0, hd2, if_pos rfl]
  · refine ⟨-1, L, ?_, ?_, FrC.rf⟩
    · rw [hd, if_pos rfl]
    · rw [if_pos s433, misCount_ok hm.2.1 h18, obind, bI_if0, hd, if_pos rfl]
end Q4
