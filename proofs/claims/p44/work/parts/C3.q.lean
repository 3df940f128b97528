/-! what the class answers, by T and N: of, tries, duels, proofs, lacks -/
section C3
variable {σ : Sg} {I I' I1 I2 : Nat → Nat → Int32} {L L' L1 L2 : Nat → Nat → Int64} {T N : Nat → Nat}
def ofV (T N : Nat → Nat) (k j : Nat) : Nat := if j = 0 then it N k 2 else if j = 1 then it N k 3 else if j = 2 then it N k 1 else if j = 3 then bk N k else if j = 4 then it N k 3 + bk N k else if j = 5 then T (26 + it N k 0) else if j = 6 then cntB (plq T (it N k 0)) (T 4) else if j = 7 then it N k 4 else if j = 8 then it N k 5 else if j = 9 then fls T N k (it N k 4) (it N k 5) else fst0 T (it N k 0)
/-- of -/
theorem c_of (h : CR σ I L T N) {k j : Nat} (hk' : k < N 18) (hj : j < 11) : ∃ I1 L1, mX11_of 100 (nI k) (nI j) (hk σ I L) = some (nI (ofV T N k j), hk σ I1 L1) ∧ FrC I L I1 L1 := by
  have hW := h.2.1
  have h18 := (h.2.2.1.bkH hW).1
  have hla := h.1.1
  have hsa := h.1.2.1
  unfold mX11_of
  rw [if_pos s100, cisCount_ok h, obind, bI_if0, dIn hk' (by omega), if_neg nTF]
  have hk8 : k < 8 := by omega
  obtain ⟨c0, c1, c2, c3, c4, c5, c6, c7, _⟩ := h.2.2.1.2.2.2.2.1 k hk'
  have w2 := hW.1.2.2.1
  have h17 := h.2.2.1.2.2.1
  obtain ⟨s1, s2, s3, s4, s5, s6⟩ := h.itB hk'
  rw [tsw_n (by omega)]
  rcases (show j = 0 ∨ j = 1 ∨ j = 2 ∨ j = 3 ∨ j = 4 ∨ j = 5 ∨ j = 6 ∨ j = 7 ∨ j = 8 ∨ j = 9 ∨ j = 10 by omega) with rfl | rfl | rfl | rfl | rfl | rfl | rfl | rfl | rfl | rfl | rfl
  · refine ⟨I, L, ?_, FrC.rf⟩
    rw [td0, gSa, gR_st hsa, obind, RF_st_10 σ hsa, at_r (SH_st2 hsa) hk8 (by omega), obind, s2]
    rfl
  · refine ⟨I, L, ?_, FrC.rf⟩
    rw [td1, gSa, gR_st hsa, obind, RF_st_11 σ hsa, at_r (SH_st3 hsa) hk8 (by omega), obind, s3]
    rfl
  · refine ⟨I, L, ?_, FrC.rf⟩
    rw [td2, gSa, gR_st hsa, obind, RF_st_12 σ hsa, at_r (SH_st4 hsa) hk8 (by omega), obind, s4]
    rfl
  · obtain ⟨b, ea⟩ := age_ok h hk'
    have f : FrC I L (rowUp I 432 b) L := FrC.rf.upI _ (by unfold scC; omega)
    have h2 : CR σ (rowUp I 432 b) L T N := h.fr f
    refine ⟨rowUp I 432 b, L, ?_, f⟩
    rw [td3, ea, b2s, gSa, gR_st hsa, obind, RF_st_11 σ hsa, at_r (SH_st3 hsa) hk8 (by omega), obind, (h2.itB hk').2.2.1, nI_sub (Nat.le_add_right _ _), Nat.add_sub_cancel_left]
    rfl
  · obtain ⟨b, ea⟩ := age_ok h hk'
    have f : FrC I L (rowUp I 432 b) L := FrC.rf.upI _ (by unfold scC; omega)
    have h2 : CR σ (rowUp I 432 b) L T N := h.fr f
    refine ⟨rowUp I 432 b, L, ?_, f⟩
    rw [td4, ea, b2s]
    rfl
  · refine ⟨I, L, ?_, FrC.rf⟩
    rw [td5, gLa, gR_la hla, obind, RF_la_8 σ hla, ckind_ok h hk', obind, at_r (SH_la3 hla) (by omega) (by omega), obind, (h.2.2.2.1.2.2.1 _ c0).1]
    rfl
  · refine ⟨I, L, ?_, FrC.rf⟩
    rw [td6, gLa, ckind_ok h hk', obind, pleasOf_ok h c0, obind]
    rfl
  · refine ⟨I, L, ?_, FrC.rf⟩
    rw [td7, gSa, gR_st hsa, obind, RF_st_13 σ hsa, at_r (SH_st5 hsa) hk8 (by omega), obind, s5]
    rfl
  · refine ⟨I, L, ?_, FrC.rf⟩
    rw [td8, gSa, gR_st hsa, obind, RF_st_14 σ hsa, at_r (SH_st6 hsa) hk8 (by omega), obind, s6]
    rfl
  · obtain ⟨rl, el, hl⟩ := remember_ok h
    have h2 : CR σ I (rowUp L 415 rl) T N := h.upL (by omega)
    obtain ⟨rc, b, ef⟩ := cfailing_ok h2 hk' (by rw [rowUp_same]; exact hl)
    have f : FrC I L (rowUp I 432 b) (rowUp (rowUp L 415 rl) 417 rc) := ((FrC.rf.upL _ (by unfold scC; omega)).upL _ (by unfold scC; omega)).upI _ (by unfold scC; omega)
    refine ⟨rowUp I 432 b, rowUp (rowUp L 415 rl) 417 rc, ?_, f⟩
    rw [td9, el, obind, ef, b2s]
    rfl
  · refine ⟨I, L, ?_, FrC.rf⟩
    rw [td10, gLa, gR_la hla, obind, RF_la_11 σ hla, ckind_ok h hk', obind, at_r (SH_la6 hla) (by omega) (by omega), obind, (h.2.2.2.1.2.2.1 _ c0).2.1]
    rfl
theorem uk0 (hW : WT T) {f : Nat} (hf : f < T 1) : unk N 0 f = (fre T N).testBit f := by
  have := unk_nd (N := N) hW (sb_0 0) hf
  rw [nd_00] at this
  rw [this, Nat.testBit_xor, Nat.testBit_and, Nat.zero_testBit, Bool.and_false, Bool.xor_false]
/-- the first trial -/
def ftr (T N : Nat → Nat) (k : Nat) : Option Nat := fstB (fun f => (fre T N).testBit f && decide (gt T N k 0 f = btr T N k 0)) (T 1)
/-- tries -/
theorem c_tries (h : CR σ I L T N) (hTh : Th I) {k j : Nat} (hk' : k < N 18) (hj : j < 2) :
    ∃ v I1 L1, mX11_tries 100 (nI k) (nI j) (hk σ I L) = some (v, hk σ I1 L1) ∧ FrC I L I1 L1 ∧ (j = 0 → v = nI (btr T N k 0)) ∧ (j = 1 → (btr T N k 0 = 0 ∧ v = -2) ∨ (btr T N k 0 ≠ 0 ∧ ∃ f, ftr T N k = some f ∧ v = nI f)) := by
  have hW := h.2.1
  have h18 := (h.2.2.1.bkH hW).1
  have w1 := hW.1.2.1
  unfold mX11_tries
  rw [if_pos s100, cisCount_ok h, obind, bI_if0, dIn hk' (by omega), if_neg nTF]
  obtain ⟨I1, L1, e1, f1, hl1, t1⟩ := growTrial_ok h hTh hk'
  obtain ⟨r, e2, hr⟩ := countTrials_ok (σ := σ) (L := L1) hW (hTh.frC f1) t1
  have f2 : FrC I L (rowUp I1 424 r) L1 := f1.upI _ (by unfold scC; omega)
  have tt : Th (rowUp I1 424 r) := hTh.frC f2
  have tr : TR T N k (rowUp I1 424 r) := t1.up r (by decide) (by decide)
  have v0 : r 0 = nI (btr T N k 0) := by have := hr 0 0 (sb_0 _) (sb_0 _); rw [nd_00] at this; exact this
  have b0 := btr_le (N := N) (k := k) (p3_pos (T 1))
  have b8 := bt8 hW (k := k) 8 0 0 (sb_0 (fre T N)) (sb_0 0) (by omega)
  rw [nd_00] at b8
  have cval : mX9_value 420 (hk σ (rowUp I1 424 r) L1) = some (nI (btr T N k 0)) := by
    unfold mX9_value
    rw [if_pos s420, g9, RF_420_3, show (0 : Int32) = nI 0 from rfl, at_r (n := 6561) rfl (by omega) (by omega), obind, rowUp_same, v0]
  by_cases hj0 : j = 0
  · subst hj0
    refine ⟨nI (btr T N k 0), rowUp I1 424 r, L1, ?_, f2, fun _ => rfl, fun q => absurd q (by decide)⟩
    rw [if_neg (nI_pos (show 0 < 2 ^ 31 by omega)), if_neg (show ¬ (1 : Int32) < nI 0 by decide), e1, obind, gTree, e2, obind, if_pos (show nI 0 = 0 from rfl), gTree, cval, obind]
  · have hj1 : j = 1 := by omega
    subst hj1
    by_cases hz : btr T N k 0 = 0
    · refine ⟨-2, rowUp I1 424 r, L1, ?_, f2, fun q => absurd q (by decide), fun _ => Or.inl ⟨hz, rfl⟩⟩
      rw [if_neg (nI_pos (show 1 < 2 ^ 31 by omega)), if_neg (show ¬ (1 : Int32) < nI 1 by decide), e1, obind, gTree, e2, obind, if_neg (show ¬ nI 1 = 0 by decide), gTree, cval, obind, hz, if_pos (show nI 0 = 0 from rfl)]
    · -- the first trial
      have hmix : mix T N k 0 = true := by
        cases e : mix T N k 0
        · exact absurd (by rw [btr_eq (p3_pos _), e, if_neg (by decide)]) hz
        · rfl
      have beq : btr T N k 0 = mnf (gt T N k 0) (unk N 0) 9 (T 1) := by rw [btr_eq (p3_pos _), if_pos hmix]
      obtain ⟨fa, fa1, fa2, fa3⟩ := mnf_at (g := gt T N k 0) (p := unk N 0) (z := 9) (n := T 1) (by rw [← beq]; omega)
      rw [← beq] at fa3
      have uk : ∀ f, f < T 1 → unk N 0 f = (fre T N).testBit f := fun f hf => uk0 hW hf
      cases hfs : fstB (fun f => (fre T N).testBit f && decide (gt T N k 0 f = btr T N k 0)) (T 1) with
      | none =>
        have := fstB_none.mp hfs fa fa1
        rw [← uk fa fa1, fa2, decide_eq_true fa3] at this; cases this
      | some f0 =>
        obtain ⟨g1, g2, g3⟩ := fstB_some.mp hfs
        rw [Bool.and_eq_true] at g2
        have g2b := of_decide_eq_true g2.2
        have ctb : ∀ f, f < T 1 → (fre T N).testBit f = true → mX9_trialsBy 420 (nI f) (nI 0) (hk σ (rowUp I1 424 r) L1) = some (nI (gt T N k 0 f)) := fun f hf hF => by
          have z0 : (0 : Nat).testBit f = false := Nat.zero_testBit _
          have := trialsBy_ok (σ := σ) (L := L1) hW tt (k := k) (fs := 0) (so := 0) (sb_0 _) (sb_0 _) hf z0 hF (by rw [rowUp_same]; exact hr _ _ (sb_or (sb_0 _) hF) (sb_or1 (sb_0 _))) (by rw [rowUp_same]; exact hr _ _ (sb_or (sb_0 _) hF) (sb_or2 (sb_0 _)))
          rw [nd_00] at this; exact this
        have d0 : ∀ f, dg 0 f = 0 := fun f => by unfold dg; rw [Nat.zero_div]
        have gb : ∀ f, f < T 1 → gt T N k 0 f ≤ 10 := fun f hf => by
          have s1 := btr_le (N := N) (k := k) (put_lt (p3_pos (T 1)) hf (d0 f) (d := 1) (by omega))
          have s2 := btr_le (N := N) (k := k) (put_lt (p3_pos (T 1)) hf (d0 f) (d := 2) (by omega))
          unfold gt; omega
        refine ⟨nI f0, rowUp I1 424 r, L1, ?_, f2, fun q => absurd q (by decide), fun _ => Or.inr ⟨hz, f0, hfs, rfl⟩⟩
        rw [if_neg (nI_pos (show 1 < 2 ^ 31 by omega)), if_neg (show ¬ (1 : Int32) < nI 1 by decide), e1, obind, gTree, e2, obind, if_neg (show ¬ nI 1 = 0 by decide), gTree, cval, obind, if_neg (nI_ne0 (by omega) (by omega)), gTree]
        unfold mX9_firstTrial mX9_firstTrial_l2
        rw [if_pos s420]
        have key := lp_traj (f := fun s : Int32 => mX9_firstTrial_l2f 420 (hk σ (rowUp I1 424 r) L1) s) f0 (fun i => nI i) (nI f0) (fun i hi => ?_) ?_
        · have key : lp (fun s : Int32 => mX9_firstTrial_l2f 420 (hk σ (rowUp I1 424 r) L1) s) (0 : Int32) = some (nI f0) := key
          rw [key, obind]
        · show mX9_firstTrial_l2f 420 (hk σ (rowUp I1 424 r) L1) (nI i) = _
          have q := g3 i hi
          have gbi := gb i (by omega)
          unfold mX9_firstTrial_l2f mX9_firstTrial_b34
          rw [c_lt8 (by omega), gI_o 4 (n := 5) rfl, obind, tr.1, has_nI (by have := fre_lt (N := N) hW; omega) (by omega), obind, bI_if0, nI_1]
          cases hF : (fre T N).testBit i
          · rw [if_pos rfl]
          · rw [if_neg nTF, show (0 : Int32) = nI 0 from rfl, ctb i (by omega) hF, obind, cval, obind, c_eqd (by omega) (by omega)]
            rw [hF, Bool.true_and] at q
            rw [if_neg (of_decide_eq_false q)]
        · show mX9_firstTrial_l2f 420 (hk σ (rowUp I1 424 r) L1) (nI f0) = _
          have gbi := gb f0 g1
          unfold mX9_firstTrial_l2f
          rw [c_lt8 (by omega), gI_o 4 (n := 5) rfl, obind, tr.1, has_nI (by have := fre_lt (N := N) hW; omega) (by omega), obind, bI_if0, g2.1, if_neg nTF, show (0 : Int32) = nI 0 from rfl, ctb f0 g1 g2.1, obind, cval, obind, c_eqd (by omega) (by omega), if_pos g2b, xts]
/-- what the class has made when a COUNT is to be tried by turns -/
theorem c_play (h : CR σ I L T N) (hTh : Th I) {k fi : Nat} (hk' : k < N 18) (hfi : fi < 2) :
    ∃ I1 L1 r, mX11_growTrial 100 (nI k) (hk σ I L) = some (hk σ I1 L1) ∧ mX9_playOut 420 (nI fi) (hk σ I1 L1) = some (hk σ (rowUp I1 424 r) L1) ∧ FrC I L (rowUp I1 424 r) L1 ∧ TR T N k (rowUp I1 424 r) ∧ Th (rowUp I1 424 r) ∧
      (∀ fs so, sb fs (fre T N) → sb so fs → r (nd fs so) = nI (vD T N k fi fs so)) := by
  have hW := h.2.1
  obtain ⟨I1, L1, e1, f1, hl1, t1⟩ := growTrial_ok h hTh hk'
  obtain ⟨r, e2, hr⟩ := playOut_ok (σ := σ) (L := L1) hW (hTh.frC f1) hfi t1
  have f2 : FrC I L (rowUp I1 424 r) L1 := f1.upI _ (by unfold scC; omega)
  exact ⟨I1, L1, r, e1, e2, f2, t1.up r (by decide) (by decide), hTh.frC f2, hr⟩
/-- duel -/
theorem c_duel (h : CR σ I L T N) (hTh : Th I) {k fi : Nat} (hk' : k < N 18) (hfi : fi < 2) : ∃ I1 L1, mX11_duel 100 (nI k) (nI fi) (hk σ I L) = some (bI (dv T N k fi 0), hk σ I1 L1) ∧ FrC I L I1 L1 := by
  have hW := h.2.1
  have h18 := (h.2.2.1.bkH hW).1
  unfold mX11_duel
  rw [if_pos s100, cisCount_ok h, obind, bI_if0, dIn hk' (by omega), if_neg nTF]
  obtain ⟨I1, L1, r, e1, e2, fC, tr, tt, hr⟩ := c_play h hTh hk' hfi
  have v0 := hr 0 0 (sb_0 _) (sb_0 _)
  rw [nd_00] at v0
  have vd : nI (vD T N k fi 0 0) = bI (dv T N k fi 0) := by
    unfold vD
    rw [nd_00, lv_root h.2.2.1, if_pos rfl, bI_n]
  refine ⟨rowUp I1 424 r, L1, ?_, fC⟩
  rw [if_neg (nI_pos (show fi < 2 ^ 31 by omega)), if_neg (n1_nlt hfi), e1, obind, gTree, e2, obind, gTree]
  unfold mX9_value
  rw [if_pos s420, g9, RF_420_3, show (0 : Int32) = nI 0 from rfl, at_r (n := 6561) rfl (by omega) (by omega), obind, obind, rowUp_same, v0, vd]
/-- turn -/
theorem c_turn (h : CR σ I L T N) (hTh : Th I) {k fi wh : Nat} (hk' : k < N 18) (hfi : fi < 2) (hwh : wh < 2) : ∃ I1 L1, mX11_turn 100 (nI k) (nI fi) (nI wh) (hk σ I L) = some (match fstB (tn T N k fi (decide (fi = 0)) 0) (T 1) with | some f => (if wh = 0 then nI f else nI (if ch T N (dv T N k fi) (decide (fi = 0)) (0 + 1 * 3 ^ f) = true then 0 else 1)) | none => -2, hk σ I1 L1) ∧ FrC I L I1 L1 := by
  have hW := h.2.1
  have h18 := (h.2.2.1.bkH hW).1
  have w1 := hW.1.2.1
  have hM := p3_8 w1
  unfold mX11_turn
  rw [if_pos s100, cisCount_ok h, obind, bI_if0, dIn hk' (by omega), if_neg nTF, if_neg (nI_pos (show fi < 2 ^ 31 by omega)), if_neg (n1_nlt hfi), if_neg (nI_pos (show wh < 2 ^ 31 by omega)), if_neg (n1_nlt hwh)]
  obtain ⟨I1, L1, r, e1, e2, fC, tr, tt, hr⟩ := c_play h hTh hk' hfi
  obtain ⟨wi, hwi⟩ : ∃ wi, wi = decide (fi = 0) := ⟨_, rfl⟩
  have ewi : (1 : Int32) - nI fi = bI wi := by
    rw [hwi]
    rcases (show fi = 0 ∨ fi = 1 by omega) with q | q <;> subst q <;> rfl
  have bt := bestTurn_ok (σ := σ) (I := rowUp I1 424 r) (L := L1) hW tt (fi := fi) tr wi (sb_0 (fre T N)) (sb_0 0) fun f q1 q2 => by
    rw [rowUp_same]
    exact ⟨hr _ _ (sb_or (sb_0 _) q2) (sb_or1 (sb_0 _)), hr _ _ (sb_or (sb_0 _) q2) (sb_or2 (sb_0 _))⟩
  rw [nd_00] at bt
  have cls : mX9_winningTurn 420 (nI fi) (hk σ (rowUp I1 424 r) L1) = some (match fstB (tn T N k fi wi 0) (T 1) with
      | some f => nI (2 * f + (if ch T N (dv T N k fi) wi (0 + 1 * 3 ^ f) = true then 0 else 1))
      | none => -1) := by
    unfold mX9_winningTurn
    rw [if_pos s420, ewi]
    exact (congrArg (fun o => Option.bind o fun v => some v) bt)
  rw [← hwi]
  refine ⟨rowUp I1 424 r, L1, ?_, fC⟩
  cases hfs : fstB (tn T N k fi wi 0) (T 1) with
  | none =>
    have cls' : mX9_winningTurn 420 (nI fi) (hk σ (rowUp I1 424 r) L1) = some (-1) := by rw [cls, hfs]
    rw [e1, obind, gTree, e2, obind, gTree, cls', obind, if_pos (by decide)]
  | some f =>
    have g1 := (fstB_some.mp hfs).1
    obtain ⟨b, hb, hb1⟩ : ∃ b, b = (if ch T N (dv T N k fi) wi (0 + 1 * 3 ^ f) = true then 0 else 1) ∧ b < 2 := ⟨_, rfl, by split <;> omega⟩
    have cls' : mX9_winningTurn 420 (nI fi) (hk σ (rowUp I1 424 r) L1) = some (nI (2 * f + b)) := by rw [cls, hfs, hb]
    show _ = some ((if wh = 0 then nI f else nI (if ch T N (dv T N k fi) wi (0 + 1 * 3 ^ f) = true then 0 else 1)), _)
    rw [← hb, e1, obind, gTree, e2, obind, gTree, cls', obind, if_neg (nI_pos (by omega)), c_0 (by omega)]
    by_cases hw0 : wh = 0
    · rw [if_pos hw0, if_pos hw0, show (1 : Int32) = nI 1 from rfl, shr_n (by omega) (by omega), Nat.shiftRight_eq_div_pow, show (2 * f + b) / 2 ^ 1 = f by omega]
    · rw [if_neg hw0, if_neg hw0, and1, show (2 * f + b) % 2 = b by omega]
/-- proofs -/
theorem c_proofs (h : CR σ I L T N) (hTh : Th I) {k : Nat} (hk' : k < N 18) (wn : Bool) : ∃ I1 L1, mX11_proofs 100 (nI k) (bI wn) (hk σ I L) = some (nI (cntB (kq T N k wn) 589824), hk σ I1 L1) ∧ FrC I L I1 L1 := by
  have hW := h.2.1
  have h18 := (h.2.2.1.bkH hW).1
  unfold mX11_proofs
  rw [if_pos s100, cisCount_ok h, obind, bI_if0, dIn hk' (by omega), if_neg nTF]
  obtain ⟨hh, v, I1, L1, e1, e2, fC, hv⟩ := proofs_both h hTh hk' wn 2147483647
  have hv' : v = nI (cntB (kq T N k wn) 589824) := by
    rcases hv with ⟨e, q, _, q2 | q2⟩ | q
    · have cq := kq_cnt (T := T) (N := N) (k := k) (wn := wn) e
      rw [q2, show (2147483647 : Int32) = nI 2147483647 from rfl] at q
      have := (nI_eq (by omega) (by omega)).mp q
      omega
    · rw [q, q2]
    · exact q.1
  refine ⟨I1, L1, ?_, fC⟩
  rw [e1, obind, e2, b2s, hv']
/-- proof: the i-th one's pair in its place in the order -/
theorem c_proof (h : CR σ I L T N) (hTh : Th I) {k i j : Nat} (hk' : k < N 18) (wn : Bool) (hlt : i < cntB (kq T N k wn) 589824) (hj : j < 2) : ∃ c I1 L1, c < 589824 ∧ kq T N k wn c = true ∧ cntB (kq T N k wn) c = i ∧ mX11_proof 100 (nI k) (bI wn) (nI i) (nI j) (hk σ I L) = some (if j = 0 then nI (kf c) else nI (ks c), hk σ I1 L1) ∧ FrC I L I1 L1 := by
  have hW := h.2.1
  have h18 := (h.2.2.1.bkH hW).1
  have tot := kq_cnt (T := T) (N := N) (k := k) (wn := wn) 589824
  have hi : i < 2147483648 := by omega
  unfold mX11_proof
  rw [if_pos s100, cisCount_ok h, obind, bI_if0, dIn hk' (by omega), if_neg nTF, if_neg (nI_pos hi)]
  obtain ⟨hh, v, I1, L1, e1, e2, fC, hv⟩ := proofs_both h hTh hk' wn (nI i + 1)
  have iw : ∀ a, a ≤ 6561 → nI a = nI i + 1 → a = i + 1 := fun a ha q => by
    by_cases hb : i + 1 < 2147483648
    · rw [nI_1] at q
      exact (nI_eq (by omega) (by omega)).mp q
    · have : i = 2147483647 := by omega
      subst this
      have q2 : (nI a).toInt = (nI 2147483647 + 1 : Int32).toInt := by rw [q]
      rw [nI_toInt (by omega)] at q2
      have q3 : (nI 2147483647 + 1 : Int32).toInt = -2147483648 := by decide
      omega
  have hv' : v = nI i + 1 ∧ ∃ e, v = nI (cntB (kq T N k wn) e) ∧ SK T N k wn (nI i + 1) (I1 425) e := by
    rcases hv with ⟨e, q, hsk, q2 | q2⟩ | q
    · exact ⟨q2, e, q, hsk⟩
    · have := hsk.2.2.2 (i + 1) (by omega) (nI_1 i)
      exact ⟨by rw [q, nI_1, show cntB (kq T N k wn) e = i + 1 by omega], e, q, hsk⟩
    · have := q.2 (i + 1) (by omega) (nI_1 i)
      omega
  obtain ⟨v1, e, ve, hsk⟩ := hv'
  have ce := kq_cnt (T := T) (N := N) (k := k) (wn := wn) e
  have ei := iw _ ce (by rw [← ve, v1])
  rcases hsk.2.2.1 (by rw [← ve, v1]) with rfl | ⟨c, rfl, hc⟩
  · have : cntB (kq T N k wn) 0 = 0 := rfl
    omega
  · obtain ⟨_, ⟨pe, _⟩ | ⟨c', hc', _, p1, p2, p3, p4⟩⟩ := hsk.1
    · omega
    obtain rfl : c' = c := by omega
    rw [cntS, hc, if_pos rfl] at ei
    have hcl := hsk.2.1
    refine ⟨c', I1, L1, by omega, hc, by omega, ?_, fC⟩
    rw [if_neg (nI_pos (show j < 2 ^ 31 by omega)), if_neg (n1_nlt hj), e1, obind, e2, b2s, if_pos v1, c_0 (by omega)]
    by_cases hj0 : j = 0
    · rw [if_pos hj0, if_pos hj0, gPick, gI_o 2 (n := 5) rfl, obind, p2]
    · rw [if_neg hj0, if_neg hj0, gPick, gI_o 3 (n := 5) rfl, obind, p3]
/-- lacks -/
theorem c_lacks (h : CR σ I L T N) (hTh : Th I) {k j : Nat} (hk' : k < N 18) (hj : j < 3) : ∃ v I1 L1, mX11_lacks 100 (nI k) (nI j) (hk σ I L) = some (v, hk σ I1 L1) ∧ FrC I L I1 L1 ∧
    ((∃ c, c < 589824 ∧ lok T N k c = true ∧ (∀ d, d < c → lok T N k d = false) ∧ v = if j = 0 then nI (pc (kf c)) else if j = 1 then nI (kf c) else nI (ks c)) ∨ ((∀ d, d < 589824 → lok T N k d = false) ∧ v = -2)) := by
  have hW := h.2.1
  have h18 := (h.2.2.1.bkH hW).1
  unfold mX11_lacks
  rw [if_pos s100, cisCount_ok h, obind, bI_if0, dIn hk' (by omega), if_neg nTF]
  obtain ⟨b, I1, L1, e1, fC, hb⟩ := findLack_ok h hTh hk'
  rw [if_neg (nI_pos (show j < 2 ^ 31 by omega)), if_neg (n2_nlt hj), e1, b2s, bI_if0, c_0 (by omega), c_1 (by omega)]
  rcases hb with ⟨rfl, c, c1, c2, c3, c4, c5⟩ | ⟨rfl, c1⟩
  · refine ⟨if j = 0 then nI (pc (kf c)) else if j = 1 then nI (kf c) else nI (ks c), I1, L1, ?_, fC, Or.inl ⟨c, c1, c2, c3, rfl⟩⟩
    rw [if_neg nTF]
    by_cases j0 : j = 0
    · rw [if_pos j0, if_pos j0, gPick, gI_o 2 (n := 5) rfl, obind, c4, cbits_ok _ (kf_lt _), obind]
    · rw [if_neg j0, if_neg j0]
      by_cases j1 : j = 1
      · rw [if_pos j1, if_pos j1, gPick, gI_o 2 (n := 5) rfl, obind, c4]
      · rw [if_neg j1, if_neg j1, gPick, gI_o 3 (n := 5) rfl, obind, c5]
  · exact ⟨-2, I1, L1, by rw [if_pos rfl], fC, Or.inr ⟨c1, rfl⟩⟩
end C3
