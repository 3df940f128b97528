section Q12
variable {σ : Sg} {I I' J I1 I2 : Nat → Nat → Int32} {L L' L1 L2 : Nat → Nat → Int64}
/-- tries -/
theorem q_tries {T N : Nat → Nat} (h : CR σ I L T N) (hm : MI I T N) (h3 : P3 I) (hTh : Th I) (x y : Int32) :
    ∃ v I1 L1 I2, mX11_tries 100 x y (hk σ I L) = some (v, hk σ I1 L1) ∧ mX12_tries 433 x y (hk σ I1 L1) = some (v, hk σ I2 L1) ∧ FrC I L I1 L1 ∧ FrM I1 L1 I2 L1 := by
  have hW := h.2.1
  have h18 := (h.2.2.1.bkH hW).1
  have w1 := hW.1.2.1
  unfold mX11_tries mX12_tries
  rw [if_pos s100, cisCount_ok h, obind, bI_if0]
  rcases ixn x (N 18) (by omega) with ⟨k, hk', rfl, hd⟩ | hd
  · rw [hd, if_neg nTF]
    rcases ixn y 2 (by omega) with ⟨j, hj, rfl, hdy⟩ | hdy
    · obtain ⟨I1, L1, e1, f1, hl1, t1⟩ := growTrial_ok h hTh hk'
      obtain ⟨r, e2, hr⟩ := countTrials_ok (σ := σ) (L := L1) hW (hTh.frC f1) t1
      have f2 : FrC I L (rowUp I1 424 r) L1 := f1.upI _ (by unfold scC; omega)
      have m1 : MI (rowUp I1 424 r) T N := hm.frC f2
      have p1 : P3 (rowUp I1 424 r) := h3.frC f2
      have tt : Th (rowUp I1 424 r) := hTh.frC f2
      have tr : TR T N k (rowUp I1 424 r) := t1.up r (by decide) (by decide)
      obtain ⟨ra, rb, e3, hy⟩ := laysWays_ok (σ := σ) (L := L1) m1 p1 hk'
      have m2 : MI (rowUp (rowUp (rowUp I1 424 r) 451 ra) 452 rb) T N := (m1.up (by omega) (by omega) (by omega)).up (by omega) (by omega) (by omega)
      have p2 : P3 (rowUp (rowUp (rowUp I1 424 r) 451 ra) 452 rb) := (p1.up _ (by omega)).up _ (by omega)
      have ww : WW T N k (rowUp (rowUp (rowUp I1 424 r) 451 ra) 452 rb) := fun x hx => by
        rw [rowUp_same, rowUp_at, if_neg (show ¬ 451 = 452 by decide), rowUp_same]
        exact hy x (Nat.zero_le _) hx
      obtain ⟨rc, e4, hc⟩ := laysTrials_ok (σ := σ) (L := L1) m2 p2 ww
      have v0 : r 0 = nI (btr T N k 0) := by have := hr 0 0 (sb_0 _) (sb_0 _); rw [nd_00] at this; exact this
      have c0 := hc 0 (p3_pos _)
      have b0 := btr_le (N := N) (k := k) (p3_pos (T 1))
      have b8 := bt8 hW (k := k) 8 0 0 (sb_0 (fre T N)) (sb_0 0) (by omega)
      rw [nd_00] at b8
      have fM : FrM (rowUp I1 424 r) L1 (rowUp (rowUp (rowUp (rowUp I1 424 r) 451 ra) 452 rb) 453 rc) L1 := FrM.upI (a := 453) (FrM.upI (a := 452) (FrM.upI (a := 451) FrM.rf ra (by unfold scM; omega)) rb (by unfold scM; omega)) rc (by unfold scM; omega)
      have cval : mX9_value 420 (hk σ (rowUp I1 424 r) L1) = some (nI (btr T N k 0)) := by
        unfold mX9_value
        rw [if_pos s420, g9, RF_420_3, show (0 : Int32) = nI 0 from rfl, at_r (n := 6561) rfl (by omega) (by omega), obind, rowUp_same, v0]
      have mval : ldI 453 (0 : Int32) (hk σ (rowUp (rowUp (rowUp (rowUp I1 424 r) 451 ra) 452 rb) 453 rc) L1) = some (nI (btr T N k 0)) := by
        rw [show (0 : Int32) = nI 0 from rfl, ldI_ok (n := 6561) rfl (by omega) (by omega), hpI_hk', rowUp_same, c0]
      by_cases hj0 : j = 0
      · subst hj0
        refine ⟨nI (btr T N k 0), rowUp I1 424 r, L1, _, ?_, ?_, f2, fM⟩
        · rw [if_neg (nI_pos (show 0 < 2 ^ 31 by omega)), if_neg (show ¬ (1 : Int32) < nI 0 by decide), e1, obind, gTree, e2, obind, if_pos (show nI 0 = 0 from rfl), gTree, cval, obind]
        · rw [if_pos s433, misCount_ok m1.2.1 h18, obind, bI_if0, hd, if_neg nTF, in_1, hdy, obind, bI_if0, if_neg nTF, e3, obind, e4, obind, if_pos (show nI 0 = 0 from rfl), g453, obind, mval, obind]
      · have hj1 : j = 1 := by omega
        subst hj1
        by_cases hz : btr T N k 0 = 0
        · refine ⟨-2, rowUp I1 424 r, L1, _, ?_, ?_, f2, fM⟩
          · rw [if_neg (nI_pos (show 1 < 2 ^ 31 by omega)), if_neg (show ¬ (1 : Int32) < nI 1 by decide), e1, obind, gTree, e2, obind, if_neg (show ¬ nI 1 = 0 by decide), gTree, cval, obind, hz, if_pos (show nI 0 = 0 from rfl)]
          · rw [if_pos s433, misCount_ok m1.2.1 h18, obind, bI_if0, hd, if_neg nTF, in_1, hdy, obind, bI_if0, if_neg nTF, e3, obind, e4, obind, if_neg (show ¬ nI 1 = 0 by decide), g453, obind, mval, obind, hz, if_pos (show nI 0 = 0 from rfl)]
        · -- the first trial
          have hmix : mix T N k 0 = true := by
            cases e : mix T N k 0
            · exact absurd (by rw [btr_eq (p3_pos _), e, if_neg (by decide)]) hz
            · rfl
          have beq : btr T N k 0 = mnf (gt T N k 0) (unk N 0) 9 (T 1) := by rw [btr_eq (p3_pos _), if_pos hmix]
          obtain ⟨fa, fa1, fa2, fa3⟩ := mnf_at (g := gt T N k 0) (p := unk N 0) (z := 9) (n := T 1) (by rw [← beq]; omega)
          rw [← beq] at fa3
          have uk : ∀ f, f < T 1 → unk N 0 f = (fre T N).testBit f := fun f hf => by
            have := unk_nd (N := N) hW (sb_0 0) hf
            rw [nd_00] at this
            rw [this, Nat.testBit_xor, Nat.testBit_and, Nat.zero_testBit, Bool.and_false, Bool.xor_false]
          cases hfs : fstB (fun f => (fre T N).testBit f && decide (gt T N k 0 f = btr T N k 0)) (T 1) with
          | none =>
            have := fstB_none.mp hfs fa fa1
            rw [← uk fa fa1, fa2, decide_eq_true fa3] at this; cases this
          | some f0 =>
            obtain ⟨g1, g2, g3⟩ := fstB_some.mp hfs
            rw [Bool.and_eq_true] at g2
            have g2b := of_decide_eq_true g2.2
            have ctb : ∀ f, f < T 1 → (fre T N).testBit f = true → mX9_trialsBy 420 (nI f) (nI 0) (hk σ (rowUp I1 424 r) L1) = some (nI (gt T N k 0 f)) := fun f hf hF => by
              have z0 : (0 : Nat).testBit f = false := Nat.zero_testBit _
              have := trialsBy_ok (σ := σ) (L := L1) hW tt (k := k) (fs := 0) (so := 0) (sb_0 _) (sb_0 _) hf z0 hF (by rw [rowUp_same]; exact hr _ _ (sb_or (sb_0 _) hF) (sb_or1 (sb_0 _))) (by rw [rowUp_same]; exact hr _ _ (sb_or (sb_0 _) hF) (sb_or2 (sb_0 _)))
              rw [nd_00] at this; exact this
            have d0 : ∀ f, dg 0 f = 0 := fun f => by unfold dg; rw [Nat.zero_div]
            have m3 : MI (rowUp (rowUp (rowUp (rowUp I1 424 r) 451 ra) 452 rb) 453 rc) T N := m2.up (by omega) (by omega) (by omega)
            have p3' : P3 (rowUp (rowUp (rowUp (rowUp I1 424 r) 451 ra) 452 rb) 453 rc) := p2.up _ (by omega)
            have ww3 : WW T N k (rowUp (rowUp (rowUp (rowUp I1 424 r) 451 ra) 452 rb) 453 rc) := fun x hx => by rw [rowUp_at, rowUp_at, if_neg (by decide), if_neg (by decide)]; exact ww x hx
            have mtb : ∀ f, f < T 1 → mX12_triedBy 433 (0 : Int32) (nI f) (hk σ (rowUp (rowUp (rowUp (rowUp I1 424 r) 451 ra) 452 rb) 453 rc) L1) = some (nI (gt T N k 0 f)) := fun f hf => by
              have s1 := put_lt (p3_pos (T 1)) hf (d0 f) (d := 1) (by omega)
              have s2 := put_lt (p3_pos (T 1)) hf (d0 f) (d := 2) (by omega)
              exact triedBy_ok (σ := σ) (L := L1) m3 p3' ww3 (x := 0) (p3_pos _) hf (d0 f) (by rw [rowUp_same]; exact hc _ s1) (by rw [rowUp_same]; exact hc _ s2)
            have gb : ∀ f, f < T 1 → gt T N k 0 f ≤ 10 := fun f hf => by
              have s1 := btr_le (N := N) (k := k) (put_lt (p3_pos (T 1)) hf (d0 f) (d := 1) (by omega))
              have s2 := btr_le (N := N) (k := k) (put_lt (p3_pos (T 1)) hf (d0 f) (d := 2) (by omega))
              unfold gt; omega
            refine ⟨nI f0, rowUp I1 424 r, L1, _, ?_, ?_, f2, fM⟩
            · rw [if_neg (nI_pos (show 1 < 2 ^ 31 by omega)), if_neg (show ¬ (1 : Int32) < nI 1 by decide), e1, obind, gTree, e2, obind, if_neg (show ¬ nI 1 = 0 by decide), gTree, cval, obind, if_neg (nI_ne0 (by omega) (by omega)), gTree]
              unfold mX9_firstTrial mX9_firstTrial_l2
              rw [if_pos s420]
              have key := lp_traj (f := fun s : Int32 => mX9_firstTrial_l2f 420 (hk σ (rowUp I1 424 r) L1) s) f0 (fun i => nI i) (nI f0) (fun i hi => ?_) ?_
              · have key : lp (fun s : Int32 => mX9_firstTrial_l2f 420 (hk σ (rowUp I1 424 r) L1) s) (0 : Int32) = some (nI f0) := key
                rw [key, obind]
              · show mX9_firstTrial_l2f 420 (hk σ (rowUp I1 424 r) L1) (nI i) = _
                have q := g3 i hi
                have gbi := gb i (by omega)
                unfold mX9_firstTrial_l2f mX9_firstTrial_b34
                rw [c_lt8 (by omega), gI_o 4 (n := 5) rfl, obind, tr.1, has_nI (by have := fre_lt (N := N) hW; omega) (by omega), obind, bI_if0, nI_1]
                cases hF : (fre T N).testBit i
                · rw [if_pos rfl]
                · rw [if_neg nTF, show (0 : Int32) = nI 0 from rfl, ctb i (by omega) hF, obind, cval, obind, c_eqd (by omega) (by omega)]
                  rw [hF, Bool.true_and] at q
                  rw [if_neg (of_decide_eq_false q)]
              · show mX9_firstTrial_l2f 420 (hk σ (rowUp I1 424 r) L1) (nI f0) = _
                have gbi := gb f0 g1
                unfold mX9_firstTrial_l2f
                rw [c_lt8 (by omega), gI_o 4 (n := 5) rfl, obind, tr.1, has_nI (by have := fre_lt (N := N) hW; omega) (by omega), obind, bI_if0, g2.1, if_neg nTF, show (0 : Int32) = nI 0 from rfl, ctb f0 g1 g2.1, obind, cval, obind, c_eqd (by omega) (by omega), if_pos g2b, xts]
            · rw [if_pos s433, misCount_ok m1.2.1 h18, obind, bI_if0, hd, if_neg nTF, in_1, hdy, obind, bI_if0, if_neg nTF, e3, obind, e4, obind, if_neg (show ¬ nI 1 = 0 by decide), g453, obind, mval, obind, if_neg (nI_ne0 (by omega) (by omega))]
              unfold mX12_tries_l53
              have key := lp_traj (f := fun s : Int32 => mX12_tries_l53f 433 (hk σ (rowUp (rowUp (rowUp (rowUp I1 424 r) 451 ra) 452 rb) 453 rc) L1) s) f0 (fun i => nI i) (nI f0, hk σ (rowUp (rowUp (rowUp (rowUp I1 424 r) 451 ra) 452 rb) 453 rc) L1) (fun i hi => ?_) ?_
              · exact key
              · show mX12_tries_l53f 433 (hk σ (rowUp (rowUp (rowUp (rowUp I1 424 r) 451 ra) 452 rb) 453 rc) L1) (nI i) = _
                have q := g3 i hi
                have gbi := gb i (by omega)
                rw [fre_bit, decide_eq_true (show i < T 1 by omega), Bool.true_and] at q
                unfold mX12_tries_l53f mX12_tries_b76
                rw [misKnown_ok m3 (by omega), obind, bI_if0, nI_1]
                cases hF : (knF N).testBit i
                · rw [if_pos rfl, mtb i (by omega), obind, g453, obind, mval, obind, c_eqd (by omega) (by omega)]
                  rw [hF] at q
                  rw [if_neg (of_decide_eq_false (by simpa using q))]
                · rw [if_neg nTF]
              · show mX12_tries_l53f 433 (hk σ (rowUp (rowUp (rowUp (rowUp I1 424 r) 451 ra) 452 rb) 453 rc) L1) (nI f0) = _
                have gbi := gb f0 g1
                have g2a := g2.1
                rw [fre_bit, decide_eq_true g1, Bool.true_and] at g2a
                unfold mX12_tries_l53f
                rw [misKnown_ok m3 (by omega), obind, bI_if0, show (knF N).testBit f0 = false by simpa using g2a, if_pos rfl, mtb f0 g1, obind, g453, obind, mval, obind, c_eqd (by omega) (by omega), if_pos g2b, xts]
    · refine ⟨-1, I, L, I, ?_, ?_, FrC.rf, FrM.rf⟩
      · rcases ix_cases y with hy | ⟨j, hj, rfl⟩
        · rw [if_pos hy]
        · rw [nI_toInt hj] at hdy
          have := of_decide_eq_false hdy
          rw [if_neg (nI_pos hj), if_pos (show (1 : Int32) < nI j from nI_lt (show 1 < j by omega) hj)]
      · rw [if_pos s433, misCount_ok hm.2.1 h18, obind, bI_if0, hd, if_neg nTF, in_1, obind, bI_if0, hdy, if_pos rfl]
  · refine ⟨-1, I, L, I, ?_, ?_, FrC.rf, FrM.rf⟩
    · rw [hd, if_pos rfl]
    · rw [if_pos s433, misCount_ok hm.2.1 h18, obind, bI_if0, hd, if_pos rfl]
end Q12
