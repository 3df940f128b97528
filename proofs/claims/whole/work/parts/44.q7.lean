section Q7
variable {σ : Sg} {I I' : Nat → Nat → Int32} {L L' : Nat → Nat → Int64}
theorem CR.itB {T N : Nat → Nat} (h : CR σ I L T N) {k : Nat} (hk' : k < N 18) : I (gsa σ + 1) k = nI (it N k 0) ∧ I (gsa σ + 2) k = nI (it N k 2) ∧ I (gsa σ + 3) k = nI (it N k 3) ∧ I (gsa σ + 4) k = nI (it N k 1) ∧ I (gsa σ + 5) k = nI (it N k 4) ∧ I (gsa σ + 6) k = nI (it N k 5) := h.2.2.2.2.2 k hk'
/-- of -/
theorem q_of {T N : Nat → Nat} (h : CR σ I L T N) (hm : MI I T N) (x y : Int32) :
    ∃ v I1 L1 I2, mX11_of 100 x y (hk σ I L) = some (v, hk σ I1 L1) ∧ mX12_of 433 x y (hk σ I1 L1) = some (v, hk σ I2 L1) ∧ FrC I L I1 L1 ∧ FrM I1 L1 I2 L1 := by
  have hW := h.2.1
  have h18 := (h.2.2.1.bkH hW).1
  have hla := h.1.1
  have hsa := h.1.2.1
  unfold mX11_of mX12_of
  rw [if_pos s100, cisCount_ok h, obind, bI_if0]
  rcases ixn x (N 18) (by omega) with ⟨k, hk', rfl, hd⟩ | hd
  · rw [hd, if_neg nTF]
    have hk8 : k < 8 := by omega
    obtain ⟨c0, c1, c2, c3, c4, c5, c6, c7, _⟩ := h.2.2.1.2.2.2.2.1 k hk'
    have w2 := hW.1.2.2.1
    have h17 := h.2.2.1.2.2.1
    obtain ⟨s1, s2, s3, s4, s5, s6⟩ := h.itB hk'
    have l18 : nI k < nI (N 18) := by rw [Int32.lt_iff_toInt_lt, nI_toInt (by omega), nI_toInt (by omega)]; omega
    -- what the model lays first
    have lay : ∀ (I1 : Nat → Nat → Int32) (L1 : Nat → Nat → Int64), FrC I L I1 L1 → ∃ r q, mX12_laysBacks 433 (hk σ I1 L1) = some (hk σ (rowUp I1 449 r) L1) ∧ mX12_laysInjuries 433 (hk σ (rowUp I1 449 r) L1) = some (hk σ (rowUp (rowUp I1 449 r) 450 q) L1) ∧ (∀ o, o < N 18 → r o = nI (bk N o)) ∧ (∀ o, o < N 18 → q o = nI (fst0 T (it N o 0))) ∧ MI (rowUp (rowUp I1 449 r) 450 q) T N ∧ MI I1 T N := by
      intro I1 L1 f
      have m1 : MI I1 T N := hm.frC f
      obtain ⟨r, e1, hr⟩ := mlaysBacks_ok (σ := σ) (L := L1) m1.2.1 (h.2.2.1.bkH hW)
      have m2 : MI (rowUp I1 449 r) T N := m1.up (by omega) (by omega) (by omega)
      obtain ⟨q, e2, hq⟩ := mlaysInj_ok (σ := σ) (L := L1) m2
      exact ⟨r, q, e1, e2, hr, hq, m2.up (by omega) (by omega) (by omega), m1⟩
    have fin : ∀ (I1 : Nat → Nat → Int32) (L1 : Nat → Nat → Int64) r q, FrM I1 L1 (rowUp (rowUp I1 449 r) 450 q) L1 := fun I1 L1 r q => (FrM.rf.upI _ (by unfold scM; omega)).upI _ (by unfold scM; omega)
    obtain ⟨r, q, e1, e2, hr, hq, mm, _⟩ := lay I L FrC.rf
    have g449 : ∀ (I1 : Nat → Nat → Int32) (L1 : Nat → Nat → Int64), gR 12 29 433 (hk σ I1 L1) = some 449 := fun _ _ => rfl
    have g450 : ∀ (I1 : Nat → Nat → Int32) (L1 : Nat → Nat → Int64), gR 12 30 433 (hk σ I1 L1) = some 450 := fun _ _ => rfl
    have r449 : ∀ (I1 : Nat → Nat → Int32) (r q : Nat → Int32), (rowUp (rowUp I1 449 r) 450 q) 449 = r := fun I1 r q => by rw [rowUp_at, if_neg (by decide), rowUp_same]
    have h4 := hW.1.2.2.2.2.1
    have hp : ∀ p, p < T 4 → T (66 + p) < 2147483648 ∧ T (72 + p) < 2147483648 := fun p hp => by have := hW.2.2.2.1 p hp; have := hW.1.2.2.2.2.2.2.1; omega
    rcases ix_cases y with hy | ⟨j, hj, rfl⟩
    · refine ⟨-1, I, L, rowUp (rowUp I 449 r) 450 q, ?_, ?_, FrC.rf, fin I L r q⟩
      · rw [tsw_neg hy]
      · rw [if_pos s433, misCount_ok hm.2.1 h18, obind, bI_if0, hd, if_neg nTF, e1, obind, e2, obind, tsw_neg hy]
    · rw [tsw_n hj]
      rcases (show j = 0 ∨ j = 1 ∨ j = 2 ∨ j = 3 ∨ j = 4 ∨ j = 5 ∨ j = 6 ∨ j = 7 ∨ j = 8 ∨ j = 9 ∨ j = 10 ∨ 11 ≤ j by omega) with rfl | rfl | rfl | rfl | rfl | rfl | rfl | rfl | rfl | rfl | rfl | hj'
      · refine ⟨nI (it N k 2), I, L, rowUp (rowUp I 449 r) 450 q, ?_, ?_, FrC.rf, fin I L r q⟩
        · rw [td0, gSa, gR_st hsa, obind, RF_st_10 σ hsa, at_r (SH_st2 hsa) hk8 (by omega), obind, s2]
        · rw [if_pos s433, misCount_ok hm.2.1 h18, obind, bI_if0, hd, if_neg nTF, e1, obind, e2, obind, tsw_n hj, td0, its_2 mm.2.1 hk8, obind]
      · refine ⟨nI (it N k 3), I, L, rowUp (rowUp I 449 r) 450 q, ?_, ?_, FrC.rf, fin I L r q⟩
        · rw [td1, gSa, gR_st hsa, obind, RF_st_11 σ hsa, at_r (SH_st3 hsa) hk8 (by omega), obind, s3]
        · rw [if_pos s433, misCount_ok hm.2.1 h18, obind, bI_if0, hd, if_neg nTF, e1, obind, e2, obind, tsw_n hj, td1, its_3 mm.2.1 hk8, obind]
      · refine ⟨nI (it N k 1), I, L, rowUp (rowUp I 449 r) 450 q, ?_, ?_, FrC.rf, fin I L r q⟩
        · rw [td2, gSa, gR_st hsa, obind, RF_st_12 σ hsa, at_r (SH_st4 hsa) hk8 (by omega), obind, s4]
        · rw [if_pos s433, misCount_ok hm.2.1 h18, obind, bI_if0, hd, if_neg nTF, e1, obind, e2, obind, tsw_n hj, td2, its_1 mm.2.1 hk8, obind]
      · obtain ⟨b, ea⟩ := age_ok h hk'
        have f : FrC I L (rowUp I 432 b) L := FrC.rf.upI _ (by unfold scC; omega)
        have h2 : CR σ (rowUp I 432 b) L T N := h.fr f
        obtain ⟨r, q, e1, e2, hr, hq, mm, _⟩ := lay _ _ f
        refine ⟨nI (bk N k), rowUp I 432 b, L, rowUp (rowUp (rowUp I 432 b) 449 r) 450 q, ?_, ?_, f, fin _ _ r q⟩
        · rw [td3, ea, b2s, gSa, gR_st hsa, obind, RF_st_11 σ hsa, at_r (SH_st3 hsa) hk8 (by omega), obind, (h2.itB hk').2.2.1, nI_sub (Nat.le_add_right _ _), Nat.add_sub_cancel_left]
        · rw [if_pos s433, misCount_ok (hm.frC f).2.1 h18, obind, bI_if0, hd, if_neg nTF, e1, obind, e2, obind, tsw_n hj, td3, g449, obind, ldI_ok (n := 8) rfl hk8 (by omega), obind, hpI_hk', r449, hr k hk']
      · obtain ⟨b, ea⟩ := age_ok h hk'
        have f : FrC I L (rowUp I 432 b) L := FrC.rf.upI _ (by unfold scC; omega)
        have h2 : CR σ (rowUp I 432 b) L T N := h.fr f
        obtain ⟨r, q, e1, e2, hr, hq, mm, _⟩ := lay _ _ f
        refine ⟨nI (it N k 3 + bk N k), rowUp I 432 b, L, rowUp (rowUp (rowUp I 432 b) 449 r) 450 q, ?_, ?_, f, fin _ _ r q⟩
        · rw [td4, ea, b2s]
        · rw [if_pos s433, misCount_ok (hm.frC f).2.1 h18, obind, bI_if0, hd, if_neg nTF, e1, obind, e2, obind, tsw_n hj, td4, its_3 mm.2.1 hk8, obind, g449, obind, ldI_ok (n := 8) rfl hk8 (by omega), obind, hpI_hk', r449, hr k hk', nI_add]
      · refine ⟨nI (T (26 + it N k 0)), I, L, rowUp (rowUp I 449 r) 450 q, ?_, ?_, FrC.rf, fin I L r q⟩
        · rw [td5, gLa, gR_la hla, obind, RF_la_8 σ hla, ckind_ok h hk', obind, at_r (SH_la3 hla) (by omega) (by omega), obind, (h.2.2.2.1.2.2.1 _ c0).1]
        · rw [if_pos s433, misCount_ok hm.2.1 h18, obind, bI_if0, hd, if_neg nTF, e1, obind, e2, obind, tsw_n hj, td5, mneeds_ok mm.1 mm.2.1 hk8 (by omega), obind]
      · refine ⟨nI (cntB (plq T (it N k 0)) (T 4)), I, L, rowUp (rowUp I 449 r) 450 q, ?_, ?_, FrC.rf, fin I L r q⟩
        · rw [td6, gLa, ckind_ok h hk', obind, pleasOf_ok h c0, obind]
        · rw [if_pos s433, misCount_ok hm.2.1 h18, obind, bI_if0, hd, if_neg nTF, e1, obind, e2, obind, tsw_n hj, td6, mbars_ok mm.1 mm.2.1 h4 hp hk8 (by omega), obind]
      · refine ⟨nI (it N k 4), I, L, rowUp (rowUp I 449 r) 450 q, ?_, ?_, FrC.rf, fin I L r q⟩
        · rw [td7, gSa, gR_st hsa, obind, RF_st_13 σ hsa, at_r (SH_st5 hsa) hk8 (by omega), obind, s5]
        · rw [if_pos s433, misCount_ok hm.2.1 h18, obind, bI_if0, hd, if_neg nTF, e1, obind, e2, obind, tsw_n hj, td7, its_4 mm.2.1 hk8, obind]
      · refine ⟨nI (it N k 5), I, L, rowUp (rowUp I 449 r) 450 q, ?_, ?_, FrC.rf, fin I L r q⟩
        · rw [td8, gSa, gR_st hsa, obind, RF_st_14 σ hsa, at_r (SH_st6 hsa) hk8 (by omega), obind, s6]
        · rw [if_pos s433, misCount_ok hm.2.1 h18, obind, bI_if0, hd, if_neg nTF, e1, obind, e2, obind, tsw_n hj, td8, its_5 mm.2.1 hk8, obind]
      · obtain ⟨rl, el, hl⟩ := remember_ok h
        have h2 : CR σ I (rowUp L 415 rl) T N := h.upL (by omega)
        obtain ⟨rc, b, ef⟩ := cfailing_ok h2 hk' (by rw [rowUp_same]; exact hl)
        have f : FrC I L (rowUp I 432 b) (rowUp (rowUp L 415 rl) 417 rc) := ((FrC.rf.upL _ (by unfold scC; omega)).upL _ (by unfold scC; omega)).upI _ (by unfold scC; omega)
        obtain ⟨r, q, e1, e2, hr, hq, mm, _⟩ := lay _ _ f
        obtain ⟨r3, q3, e3, _⟩ := mfailing_ok (σ := σ) (L := rowUp (rowUp L 415 rl) 417 rc) mm hk'
        refine ⟨nI (fls T N k (it N k 4) (it N k 5)), rowUp I 432 b, rowUp (rowUp L 415 rl) 417 rc, _, ?_, ?_, f, FrM.upI (a := 449) (FrM.upI (a := 448) (fin _ _ r q) q3 (by unfold scM; omega)) r3 (by unfold scM; omega)⟩
        · rw [td9, el, obind, ef, b2s]
        · rw [if_pos s433, misCount_ok (hm.frC f).2.1 h18, obind, bI_if0, hd, if_neg nTF, e1, obind, e2, obind, tsw_n hj, td9, e3, b2s]
      · refine ⟨nI (fst0 T (it N k 0)), I, L, rowUp (rowUp I 449 r) 450 q, ?_, ?_, FrC.rf, fin I L r q⟩
        · rw [td10, gLa, gR_la hla, obind, RF_la_11 σ hla, ckind_ok h hk', obind, at_r (SH_la6 hla) (by omega) (by omega), obind, (h.2.2.2.1.2.2.1 _ c0).2.1]
        · rw [if_pos s433, misCount_ok hm.2.1 h18, obind, bI_if0, hd, if_neg nTF, e1, obind, e2, obind, tsw_n hj, td10, g450, obind, ldI_ok (n := 8) rfl hk8 (by omega), obind, hpI_hk', rowUp_same, hq k hk']
      · refine ⟨-1, I, L, rowUp (rowUp I 449 r) 450 q, ?_, ?_, FrC.rf, fin I L r q⟩
        · rw [tdN (by simp only [List.length_cons, List.length_nil]; omega)]
        · rw [if_pos s433, misCount_ok hm.2.1 h18, obind, bI_if0, hd, if_neg nTF, e1, obind, e2, obind, tsw_n hj, tdN (by simp only [List.length_cons, List.length_nil]; omega)]
  · refine ⟨-1, I, L, I, ?_, ?_, FrC.rf, FrM.rf⟩
    · rw [hd, if_pos rfl]
    · rw [if_pos s433, misCount_ok hm.2.1 h18, obind, bI_if0, hd, if_pos rfl]
/-- what is left of a world when it must let a set of COUNTS stand -/
def tg (T N : Nat → Nat) (X n w : Nat) : Bool := lft T N w && allB (fun c => !X.testBit c || won T (it N c 0) w) n
theorem tg_s {T N : Nat → Nat} {X n w : Nat} : tg T N X (n + 1) w = (tg T N X n w && (!X.testBit n || won T (it N n 0) w)) := by
  unfold tg
  show (lft T N w && (allB (fun c => !X.testBit c || won T (it N c 0) w) n && (!X.testBit n || won T (it N n 0) w))) = _
  rw [Bool.and_assoc]
theorem tg_no {T N : Nat → Nat} {X w : Nat} : ∀ {n m : Nat}, n ≤ m → tg T N X n w = false → tg T N X m w = false := by
  intro n m hnm h
  obtain ⟨d, rfl⟩ := Nat.le.dest hnm
  induction d with
  | zero => exact h
  | succ d ih => rw [show n + (d + 1) = (n + d) + 1 from rfl, tg_s, ih (by omega)]; rfl
/-- together -/
theorem q_together {T N : Nat → Nat} (h : CR σ I L T N) (hm : MI I T N) (x : Int32) :
    ∃ v L1, mX11_together 100 x (hk σ I L) = some (v, hk σ I L1) ∧ mX12_together 433 x (hk σ I L1) = some v ∧ FrC I L I L1 := by
  have hW := h.2.1
  have h18 := (h.2.2.1.bkH hW).1
  have hla := h.1.1
  have hsa := h.1.2.1
  have hc := h.2.2.2.2.1.2.2.1
  unfold mX11_together mX12_together
  rw [if_pos s100]
  rcases ix_cases x with hx | ⟨X, hX, rfl⟩
  · rw [if_pos hx]; exact ⟨_, _, rfl, by rw [if_pos s433, if_pos hx], FrC.rf⟩
  · rw [if_neg (nI_pos hX), gSa, gI_st hsa, obind, hc, nx_shr hX (by omega)]
    by_cases hz : nI (X >>> N 18) = 0
    · obtain ⟨r, e1, hr⟩ := remember_ok h
      rw [if_pos hz, e1, obind]
      unfold mX11_together_l24
      obtain ⟨o, e, r', rfl, hr'⟩ := lp_inv (f := fun s : Int32 × Hp => mX11_together_l24f 100 (nI X) s.1 s.2) (N 18) (fun i st => ∃ r, st = (nI i, hk σ I (rowUp L 415 r)) ∧ Rw r (tg T N X i))
        (fun o => ∃ r, o = (bI (anyB (tg T N X (N 18)) 256), hk σ I (rowUp L 415 r)) ∧ Rw r (tg T N X (N 18)))
        (fun i st hi hQ => by
          obtain ⟨r, rfl, hr⟩ := hQ
          have h2 : CR σ I (rowUp L 415 r) T N := h.upL (by omega)
          show ∃ t, mX11_together_l24f 100 (nI X) (nI i) (hk σ I (rowUp L 415 r)) = some (.inl t) ∧ _
          unfold mX11_together_l24f mX11_together_b62
          rw [gSa, gI_st hsa, obind, hc, c_lt hi (by omega), has_nI hX (by omega), obind, bI_if0]
          rcases Bool.eq_false_or_eq_true (X.testBit i) with q | q
          · obtain ⟨w1, w2, w3⟩ := h2.wonR hi
            have a0 := (h.2.2.1.2.2.2.2.1 i hi).1
            have wk2 := hW.1.2.2.1
            obtain ⟨r', e2, hr'⟩ := and_ok (wLeft (σ := σ) (I := I) (L := rowUp L 415 r)) w1 (by omega) (by rw [hpL_hk'', rowUp_same]; exact hr) (by rw [hpL_hk'']; exact w2)
            rw [setL_hk, rowUp_two] at e2
            rw [q, if_neg nTF, gLeft, gLa, ckind_ok h2 hi, obind, w3, obind, e2, obind, nI_1]
            refine ⟨_, rfl, r', rfl, ?_⟩
            have : (fun w => tg T N X i w && won T (it N i 0) w) = tg T N X (i + 1) := by
              funext w; rw [tg_s, q]; simp
            rw [← this]; exact hr'
          · rw [q, if_pos rfl, nI_1]
            refine ⟨_, rfl, r, rfl, ?_⟩
            have : tg T N X i = tg T N X (i + 1) := by
              funext w; rw [tg_s, q]; simp
            rw [← this]; exact hr)
        (fun st hQ => by
          obtain ⟨r, rfl, hr⟩ := hQ
          refine ⟨_, ?_, r, rfl, hr⟩
          show mX11_together_l24f 100 (nI X) (nI (N 18)) (hk σ I (rowUp L 415 r)) = _
          unfold mX11_together_l24f
          rw [gSa, gI_st hsa, obind, hc, c_nlt (Nat.le_refl _) (by omega), gLeft, isEmpty_ok (wLeft (σ := σ) (I := I) (L := rowUp L 415 r)) (by rw [hpL_hk'', rowUp_same]; exact hr), obind, bI_if0]
          cases anyB (tg T N X (N 18)) 256 <;> rfl) (s := (nI 0, hk σ I (rowUp L 415 r))) ⟨r, rfl, by
          have : tg T N X 0 = lft T N := by funext w; unfold tg; show (lft T N w && true) = _; rw [Bool.and_true]
          rw [this]; exact hr⟩
      refine ⟨bI (anyB (tg T N X (N 18)) 256), rowUp L 415 r', e, ?_, FrC.rf.upL _ (by unfold scC; omega)⟩
      rw [if_pos s433, if_neg (nI_pos hX), g438, L18, ldN hm.2.1 (by omega), obind, nx_shr hX (by omega), if_pos hz]
      have inner : ∀ w, w < 256 → mX12_together_l36 433 (nI X) (nI w) (bI (lft T N w)) 0 (hk σ I (rowUp L 415 r')) = some (if tg T N X (N 18) w = true then .inr 1 else .inl (nI (w + 1))) := by
        intro w hw
        unfold mX12_together_l36
        obtain ⟨o, e, rfl⟩ := lp_invX (f := fun s : Int32 × Int32 => mX12_together_l36f 433 (nI X) (nI w) (hk σ I (rowUp L 415 r')) s.1 s.2) (N 18) (fun i st => st = (bI (tg T N X i w), nI i)) (fun o => o = (if tg T N X (N 18) w = true then .inr 1 else .inl (nI (w + 1))))
          (fun i st hi hQ => by
            subst hQ
            show (∃ t, mX12_together_l36f 433 (nI X) (nI w) (hk σ I (rowUp L 415 r')) (bI (tg T N X i w)) (nI i) = some (.inl t) ∧ _) ∨ ∃ r, mX12_together_l36f 433 (nI X) (nI w) (hk σ I (rowUp L 415 r')) (bI (tg T N X i w)) (nI i) = some (.inr r) ∧ _
            unfold mX12_together_l36f mX12_together_b83 mX12_together_b71 mX12_together_b76
            rw [g438, L18, ldN hm.2.1 (by omega), obind, c_lt hi (by omega), bI_if0, bI_if0]
            rcases Bool.eq_false_or_eq_true (tg T N X i w) with q | q
            · refine Or.inl ?_
              have hlw : lft T N w = true := by unfold tg at q; rw [Bool.and_eq_true] at q; exact q.1
              rw [tg_s, q, if_neg nTF, mhas_nI hX (by omega), obind, bI_if0, Bool.true_and, nI_1]
              rcases Bool.eq_false_or_eq_true (X.testBit i) with q2 | q2
              · rw [q2, if_neg nTF, hm.won hi hw, obind, bI_if0, decide_eq_true (lft_lt hlw), Bool.true_and]
                rcases Bool.eq_false_or_eq_true (won T (it N i 0) w) with q3 | q3
                · rw [q3, if_neg nTF]; exact ⟨_, rfl, rfl⟩
                · rw [q3, if_pos rfl]; exact ⟨_, rfl, rfl⟩
              · rw [q2, if_pos rfl]; exact ⟨_, rfl, rfl⟩
            · refine Or.inr ?_
              rw [q, if_pos rfl, if_pos rfl, xts, tg_no (show i ≤ N 18 by omega) q, nI_1]
              exact ⟨_, rfl, rfl⟩)
          (fun st hQ => by
            subst hQ
            show ∃ r, mX12_together_l36f 433 (nI X) (nI w) (hk σ I (rowUp L 415 r')) (bI (tg T N X (N 18) w)) (nI (N 18)) = some (.inr r) ∧ _
            unfold mX12_together_l36f mX12_together_b83
            rw [g438, L18, ldN hm.2.1 (by omega), obind, c_nlt (Nat.le_refl _) (by omega), bI_if0, nI_1]
            rcases Bool.eq_false_or_eq_true (tg T N X (N 18) w) with q | q
            · rw [q, if_neg nTF]; exact ⟨_, rfl, rfl⟩
            · rw [q, if_pos rfl]; exact ⟨_, rfl, rfl⟩) (i := 0) (s := (bI (lft T N w), nI 0)) (Nat.zero_le _) (by unfold tg; show _ = (bI (lft T N w && true), nI 0); rw [Bool.and_true])
        exact e
      unfold mX12_together_l20
      have key := lp_any (f := fun s : Int32 => mX12_together_l20f 433 (nI X) (hk σ I (rowUp L 415 r')) s) 256 (fun i => nI i) (tg T N X (N 18)) (1 : Int32) 0
        (fun w hw hp => by
          show mX12_together_l20f 433 (nI X) (hk σ I (rowUp L 415 r')) (nI w) = _
          unfold mX12_together_l20f
          rw [show (256 : Int32) = nI 256 from rfl, c_lt hw (by omega), hm.left hw, obind, inner w hw, hp]; rfl)
        (fun w hw hp => by
          show mX12_together_l20f 433 (nI X) (hk σ I (rowUp L 415 r')) (nI w) = _
          unfold mX12_together_l20f
          rw [show (256 : Int32) = nI 256 from rfl, c_lt hw (by omega), hm.left hw, obind, inner w hw, hp]; rfl)
        (by
          show mX12_together_l20f 433 (nI X) (hk σ I (rowUp L 415 r')) (nI 256) = _
          unfold mX12_together_l20f
          rw [if_neg (by decide)]; rfl)
      rw [show (0 : Int32) = nI 0 from rfl] at key ⊢
      rw [key]
      cases anyB (tg T N X (N 18)) 256 <;> rfl
    · rw [if_neg hz]
      refine ⟨-1, L, rfl, ?_, FrC.rf⟩
      rw [if_pos s433, if_neg (nI_pos hX), g438, L18, ldN hm.2.1 (by omega), obind, nx_shr hX (by omega), if_neg hz]
end Q7
