section QDuel
variable {σ : Sg} {I I' J I1 I2 : Nat → Nat → Int32} {L L' L1 L2 : Nat → Nat → Int64}
/-- what both sides have made when a COUNT is to be tried by turns -/
theorem duel_both {T N : Nat → Nat} (h : CR σ I L T N) (hm : MI I T N) (h3 : P3 I) (hTh : Th I) {k fi : Nat} (hk' : k < N 18) (hfi : fi < 2) :
    ∃ I1 L1 r I2, mX11_growTrial 100 (nI k) (hk σ I L) = some (hk σ I1 L1) ∧ mX9_playOut 420 (nI fi) (hk σ I1 L1) = some (hk σ (rowUp I1 424 r) L1) ∧ FrC I L (rowUp I1 424 r) L1 ∧ TR T N k (rowUp I1 424 r) ∧ Th (rowUp I1 424 r) ∧
      (∀ fs so, sb fs (fre T N) → sb so fs → r (nd fs so) = nI (vD T N k fi fs so)) ∧ MI (rowUp I1 424 r) T N ∧
      (mX12_laysWays 433 (nI k) (hk σ (rowUp I1 424 r) L1)).bind (fun h => mX12_laysDuel 433 (nI fi) h) = some (hk σ I2 L1) ∧ FrM (rowUp I1 424 r) L1 I2 L1 ∧ MI I2 T N ∧ P3 I2 ∧ WW T N k I2 ∧ ∀ x, x < 3 ^ T 1 → I2 453 x = bI (dv T N k fi x) := by
  have hW := h.2.1
  obtain ⟨I1, L1, e1, f1, hl1, t1⟩ := growTrial_ok h hTh hk'
  obtain ⟨r, e2, hr⟩ := playOut_ok (σ := σ) (L := L1) hW (hTh.frC f1) hfi t1
  have f2 : FrC I L (rowUp I1 424 r) L1 := f1.upI _ (by unfold scC; omega)
  have m1 : MI (rowUp I1 424 r) T N := hm.frC f2
  have p1 : P3 (rowUp I1 424 r) := h3.frC f2
  have tt : Th (rowUp I1 424 r) := hTh.frC f2
  have tr : TR T N k (rowUp I1 424 r) := t1.up r (by decide) (by decide)
  obtain ⟨ra, rb, e3, hy⟩ := laysWays_ok (σ := σ) (L := L1) m1 p1 hk'
  have m2 : MI (rowUp (rowUp (rowUp I1 424 r) 451 ra) 452 rb) T N := (m1.up (by omega) (by omega) (by omega)).up (by omega) (by omega) (by omega)
  have p2 : P3 (rowUp (rowUp (rowUp I1 424 r) 451 ra) 452 rb) := (p1.up _ (by omega)).up _ (by omega)
  have ww : WW T N k (rowUp (rowUp (rowUp I1 424 r) 451 ra) 452 rb) := fun x hx => by
    rw [rowUp_same, rowUp_at, if_neg (show ¬ 451 = 452 by decide), rowUp_same]
    exact hy x (Nat.zero_le _) hx
  obtain ⟨rc, e4, hc⟩ := laysDuel_ok (σ := σ) (L := L1) m2 p2 ww hfi
  have fM : FrM (rowUp I1 424 r) L1 (rowUp (rowUp (rowUp (rowUp I1 424 r) 451 ra) 452 rb) 453 rc) L1 := FrM.upI (a := 453) (FrM.upI (a := 452) (FrM.upI (a := 451) FrM.rf ra (by unfold scM; omega)) rb (by unfold scM; omega)) rc (by unfold scM; omega)
  refine ⟨I1, L1, r, _, e1, e2, f2, tr, tt, hr, m1, ?_, fM, m2.up (by omega) (by omega) (by omega), p2.up _ (by omega), fun x hx => ?_, fun x hx => ?_⟩
  · rw [e3, obind]; exact e4
  · rw [rowUp_at, rowUp_at, if_neg (by decide), if_neg (by decide)]; exact ww x hx
  · rw [rowUp_same]; exact hc x hx
theorem n1_nlt {y : Nat} (h : y < 2) : ¬ (1 : Int32) < nI y := by
  rcases (show y = 0 ∨ y = 1 by omega) with rfl | rfl <;> decide
theorem n2_nlt {y : Nat} (h : y < 3) : ¬ (2 : Int32) < nI y := by
  rcases (show y = 0 ∨ y = 1 ∨ y = 2 by omega) with rfl | rfl | rfl <;> decide
theorem lv_root {T N : Nat → Nat} (hN : WN T N) : lv T N 0 = true := by
  unfold lv
  rw [cn_0]
  refine decide_eq_true fun z => ?_
  rw [cntB_0] at z
  rw [hN.any] at z
  cases z
/-- duel -/
theorem q_duel {T N : Nat → Nat} (h : CR σ I L T N) (hm : MI I T N) (h3 : P3 I) (hTh : Th I) (x y : Int32) :
    ∃ v I1 L1 I2, mX11_duel 100 x y (hk σ I L) = some (v, hk σ I1 L1) ∧ mX12_duel 433 x y (hk σ I1 L1) = some (v, hk σ I2 L1) ∧ FrC I L I1 L1 ∧ FrM I1 L1 I2 L1 := by
  have hW := h.2.1
  have h18 := (h.2.2.1.bkH hW).1
  unfold mX11_duel mX12_duel
  rw [if_pos s100, cisCount_ok h, obind, bI_if0]
  rcases ixn x (N 18) (by omega) with ⟨k, hk', rfl, hd⟩ | hd
  · rw [hd, if_neg nTF]
    rcases ixn y 2 (by omega) with ⟨fi, hfi, rfl, hdy⟩ | hdy
    · obtain ⟨I1, L1, r, I2, e1, e2, fC, tr, tt, hr, m1, e3, fM, m2, p2, ww, hc⟩ := duel_both h hm h3 hTh hk' hfi
      have v0 := hr 0 0 (sb_0 _) (sb_0 _)
      rw [nd_00] at v0
      have c0 := hc 0 (p3_pos _)
      have vd : nI (vD T N k fi 0 0) = bI (dv T N k fi 0) := by
        unfold vD
        rw [nd_00, lv_root h.2.2.1, if_pos rfl, bI_n]
      refine ⟨bI (dv T N k fi 0), rowUp I1 424 r, L1, I2, ?_, ?_, fC, fM⟩
      · rw [if_neg (nI_pos (show fi < 2 ^ 31 by omega)), if_neg (n1_nlt hfi), e1, obind, gTree, e2, obind, gTree]
        unfold mX9_value
        rw [if_pos s420, g9, RF_420_3, show (0 : Int32) = nI 0 from rfl, at_r (n := 6561) rfl (by omega) (by omega), obind, obind, rowUp_same, v0, vd]
      · obtain ⟨hh, q1, q2⟩ := Option.bind_eq_some_iff.mp e3
        rw [if_pos s433, misCount_ok m1.2.1 h18, obind, bI_if0, hd, if_neg nTF, in_1, hdy, obind, bI_if0, if_neg nTF, q1, obind, q2, obind, g453, obind, show (0 : Int32) = nI 0 from rfl, ldI_ok (n := 6561) rfl (by omega) (by omega), obind, hpI_hk', c0]
    · refine ⟨-1, I, L, I, ?_, ?_, FrC.rf, FrM.rf⟩
      · rcases ix_cases y with hy | ⟨j, hj, rfl⟩
        · rw [if_pos hy]
        · rw [nI_toInt hj] at hdy
          have := of_decide_eq_false hdy
          rw [if_neg (nI_pos hj), if_pos (show (1 : Int32) < nI j from nI_lt (show 1 < j by omega) hj)]
      · rw [if_pos s433, misCount_ok hm.2.1 h18, obind, bI_if0, hd, if_neg nTF, in_1, obind, bI_if0, hdy, if_pos rfl]
  · refine ⟨-1, I, L, I, ?_, ?_, FrC.rf, FrM.rf⟩
    · rw [hd, if_pos rfl]
    · rw [if_pos s433, misCount_ok hm.2.1 h18, obind, bI_if0, hd, if_pos rfl]
/-- turn -/
theorem q_turn {T N : Nat → Nat} (h : CR σ I L T N) (hm : MI I T N) (h3 : P3 I) (hTh : Th I) (x y z : Int32) :
    ∃ v I1 L1 I2, mX11_turn 100 x y z (hk σ I L) = some (v, hk σ I1 L1) ∧ mX12_turn 433 x y z (hk σ I1 L1) = some (v, hk σ I2 L1) ∧ FrC I L I1 L1 ∧ FrM I1 L1 I2 L1 := by
  have hW := h.2.1
  have h18 := (h.2.2.1.bkH hW).1
  have w1 := hW.1.2.1
  have hM := p3_8 w1
  unfold mX11_turn mX12_turn
  rw [if_pos s100, cisCount_ok h, obind, bI_if0]
  rcases ixn x (N 18) (by omega) with ⟨k, hk', rfl, hd⟩ | hd
  · rw [hd, if_neg nTF]
    rcases ixn y 2 (by omega) with ⟨fi, hfi, rfl, hdy⟩ | hdy
    · rw [if_neg (nI_pos (show fi < 2 ^ 31 by omega)), if_neg (n1_nlt hfi)]
      rcases ixn z 2 (by omega) with ⟨wh, hwh, rfl, hdz⟩ | hdz
      · rw [if_neg (nI_pos (show wh < 2 ^ 31 by omega)), if_neg (n1_nlt hwh)]
        obtain ⟨I1, L1, r, I2, e1, e2, fC, tr, tt, hr, m1, e3, fM, m2, p2, ww, hc⟩ := duel_both h hm h3 hTh hk' hfi
        obtain ⟨wi, hwi⟩ : ∃ wi, wi = decide (fi = 0) := ⟨_, rfl⟩
        have ewi : (1 : Int32) - nI fi = bI wi := by
          rw [hwi]
          rcases (show fi = 0 ∨ fi = 1 by omega) with q | q <;> subst q <;> rfl
        have bt := bestTurn_ok (σ := σ) (I := rowUp I1 424 r) (L := L1) hW tt (fi := fi) tr wi (sb_0 (fre T N)) (sb_0 0) fun f q1 q2 => by
          rw [rowUp_same]
          exact ⟨hr _ _ (sb_or (sb_0 _) q2) (sb_or1 (sb_0 _)), hr _ _ (sb_or (sb_0 _) q2) (sb_or2 (sb_0 _))⟩
        rw [nd_00] at bt
        have d0 : ∀ f, dg 0 f = 0 := fun f => by unfold dg; rw [Nat.zero_div]
        have cls : mX9_winningTurn 420 (nI fi) (hk σ (rowUp I1 424 r) L1) = some (match fstB (tn T N k fi wi 0) (T 1) with
            | some f => nI (2 * f + (if ch T N (dv T N k fi) wi (0 + 1 * 3 ^ f) = true then 0 else 1))
            | none => -1) := by
          unfold mX9_winningTurn
          rw [if_pos s420, ewi]
          exact (congrArg (fun o => Option.bind o fun v => some v) bt)
        -- one fact, one way
        have way : ∀ f s, f < T 1 → s < 2 → (knF N).testBit f = false → mX12_turn_l55f 433 (nI fi) (nI wh) (nI f) (hk σ I2 L1) (nI s) = if ch T N (dv T N k fi) wi (0 + (s + 1) * 3 ^ f) = true then some (.inr (.inr (if wh = 0 then nI f else nI s, hk σ I2 L1))) else some (.inl (nI (s + 1))) := by
          intro f s hf hs hq
          have sy := put_lt (p3_pos (T 1)) hf (d0 f) (d := s + 1) (by omega)
          rw [Nat.zero_add] at sy ⊢
          have cl := cn_le (lft T N) (T 1) ((s + 1) * 3 ^ f)
          unfold mX12_turn_l55f mX12_turn_b118
          rw [show (2 : Int32) = nI 2 from rfl, c_lt hs (by omega), misKnown_ok m2 (by omega), obind, bI_if0, hq, if_pos rfl, ld3 p2 (by omega), obind, g451, obind, nI_1, pk_mul, ldI_ok (n := 6561) rfl (by omega) (by omega), obind, hpI_hk', (ww _ sy).1]
          unfold ch
          by_cases hl : cn (lft T N) (T 1) ((s + 1) * 3 ^ f) = 0
          · rw [hl, if_neg (show ¬ (0 : Int32) < nI 0 by decide), show lv T N ((s + 1) * 3 ^ f) = false by unfold lv; exact decide_eq_false fun q => q hl, Bool.false_and, if_neg (by decide)]
          · rw [if_pos (show (0 : Int32) < nI (cn (lft T N) (T 1) ((s + 1) * 3 ^ f)) from nI_lt (a := 0) (by omega) (by omega)), g453, obind, ldI_ok (n := 6561) rfl (by omega) (by omega), obind, hpI_hk', hc _ sy, show lv T N ((s + 1) * 3 ^ f) = true by unfold lv; exact decide_eq_true hl, Bool.true_and, ewi, c_0 (by omega)]
            have bw : (bI (dv T N k fi ((s + 1) * 3 ^ f)) = bI wi) ↔ ((dv T N k fi ((s + 1) * 3 ^ f) == wi) = true) := by
              cases dv T N k fi ((s + 1) * 3 ^ f) <;> cases wi <;> decide
            by_cases q : (dv T N k fi ((s + 1) * 3 ^ f) == wi) = true
            · rw [if_pos (bw.mpr q), if_pos q]
              by_cases hw0 : wh = 0
              · rw [if_pos hw0, if_pos hw0, xts, xts]
              · rw [if_neg hw0, if_neg hw0, xts, xts]
            · rw [if_neg (fun t => q (bw.mp t)), if_neg q]
        have ans : ∀ f, f < T 1 → tn T N k fi wi 0 f = true → mX12_turn_l41f 433 (nI fi) (nI wh) (hk σ I2 L1) (nI f) = some (.inr ((if wh = 0 then nI f else nI (if ch T N (dv T N k fi) wi (0 + 1 * 3 ^ f) = true then 0 else 1)), hk σ I2 L1)) := by
          intro f hf ht
          have hu : unk N 0 f = true := by
            unfold tn at ht; rw [Bool.and_eq_true] at ht; exact ht.1
          have hq : (knF N).testBit f = false := by
            unfold unk at hu
            revert hu
            cases (knF N).testBit f <;> simp
          unfold mX12_turn_l41f mX12_turn_l55
          rw [g434, ldT1 m2.1, obind, c_lt hf (by omega)]
          have w0 := way f 0 hf (by omega) hq
          have w1' := way f 1 hf (by omega) hq
          unfold tn at ht
          rw [hu, Bool.true_and] at ht
          cases q : ch T N (dv T N k fi) wi (0 + 1 * 3 ^ f)
          · rw [q, Bool.false_or] at ht
            rw [show (0 + 1) * 3 ^ f = 1 * 3 ^ f from rfl, q, if_neg (by decide)] at w0
            rw [show (1 + 1) * 3 ^ f = 2 * 3 ^ f from rfl, ht, if_pos rfl] at w1'
            rw [show (0 : Int32) = nI 0 from rfl, lp_inl w0, lp_inr w1']; rfl
          · rw [show (0 + 1) * 3 ^ f = 1 * 3 ^ f from rfl, q, if_pos rfl] at w0
            rw [show (0 : Int32) = nI 0 from rfl, lp_inr w0, if_pos rfl]
        have nxt : ∀ f, f < T 1 → tn T N k fi wi 0 f = false → mX12_turn_l41f 433 (nI fi) (nI wh) (hk σ I2 L1) (nI f) = some (.inl (nI (f + 1))) := by
          intro f hf ht
          unfold mX12_turn_l41f mX12_turn_l55
          rw [g434, ldT1 m2.1, obind, c_lt hf (by omega)]
          cases hq : (knF N).testBit f
          · have hu : unk N 0 f = true := by unfold unk; rw [hq, decide_eq_true (d0 f)]; rfl
            have w0 := way f 0 hf (by omega) hq
            have w1' := way f 1 hf (by omega) hq
            unfold tn at ht
            rw [hu, Bool.true_and, Bool.or_eq_false_iff] at ht
            rw [show (0 + 1) * 3 ^ f = 1 * 3 ^ f from rfl, ht.1, if_neg (by decide)] at w0
            rw [show (1 + 1) * 3 ^ f = 2 * 3 ^ f from rfl, ht.2, if_neg (by decide)] at w1'
            rw [show (0 : Int32) = nI 0 from rfl, lp_inl w0, lp_inl w1']
            refine lp_inr ?_
            show mX12_turn_l55f 433 (nI fi) (nI wh) (nI f) (hk σ I2 L1) (nI 2) = _
            unfold mX12_turn_l55f mX12_turn_b124
            rw [if_neg (by decide), nI_1, xts]
          · refine lp_inr ?_
            show mX12_turn_l55f 433 (nI fi) (nI wh) (nI f) (hk σ I2 L1) 0 = _
            unfold mX12_turn_l55f mX12_turn_b124
            rw [if_pos (by decide), misKnown_ok m2 (by omega), obind, bI_if0, hq, if_neg nTF, nI_1, xts]
        have mdl := lp_first (f := fun s : Int32 => mX12_turn_l41f 433 (nI fi) (nI wh) (hk σ I2 L1) s) (T 1) (fun i => nI i) (tn T N k fi wi 0) (fun f => ((if wh = 0 then nI f else nI (if ch T N (dv T N k fi) wi (0 + 1 * 3 ^ f) = true then 0 else 1)), hk σ I2 L1)) (-2, hk σ I2 L1)
          (fun i hi hp => nxt i hi hp) (fun i hi hp => ans i hi hp) (by
            show mX12_turn_l41f 433 (nI fi) (nI wh) (hk σ I2 L1) (nI (T 1)) = _
            unfold mX12_turn_l41f
            rw [g434, ldT1 m2.1, obind, c_nlt (Nat.le_refl _) (by omega), xts])
        refine ⟨match fstB (tn T N k fi wi 0) (T 1) with | some f => (if wh = 0 then nI f else nI (if ch T N (dv T N k fi) wi (0 + 1 * 3 ^ f) = true then 0 else 1)) | none => -2, rowUp I1 424 r, L1, I2, ?_, ?_, fC, fM⟩
        · cases hfs : fstB (tn T N k fi wi 0) (T 1) with
          | none =>
            have cls' : mX9_winningTurn 420 (nI fi) (hk σ (rowUp I1 424 r) L1) = some (-1) := by rw [cls, hfs]
            rw [e1, obind, gTree, e2, obind, gTree, cls', obind, if_pos (by decide)]
          | some f =>
            have g1 := (fstB_some.mp hfs).1
            obtain ⟨b, hb, hb1⟩ : ∃ b, b = (if ch T N (dv T N k fi) wi (0 + 1 * 3 ^ f) = true then 0 else 1) ∧ b < 2 := ⟨_, rfl, by split <;> omega⟩
            have cls' : mX9_winningTurn 420 (nI fi) (hk σ (rowUp I1 424 r) L1) = some (nI (2 * f + b)) := by rw [cls, hfs, hb]
            show _ = some ((if wh = 0 then nI f else nI (if ch T N (dv T N k fi) wi (0 + 1 * 3 ^ f) = true then 0 else 1)), _)
            rw [← hb, e1, obind, gTree, e2, obind, gTree, cls', obind, if_neg (nI_pos (by omega)), c_0 (by omega)]
            by_cases hw0 : wh = 0
            · rw [if_pos hw0, if_pos hw0, show (1 : Int32) = nI 1 from rfl, shr_n (by omega) (by omega), Nat.shiftRight_eq_div_pow, show (2 * f + b) / 2 ^ 1 = f by omega]
            · rw [if_neg hw0, if_neg hw0, and1, show (2 * f + b) % 2 = b by omega]
        · obtain ⟨hh, q1, q2⟩ := Option.bind_eq_some_iff.mp e3
          rw [if_pos s433, misCount_ok m1.2.1 h18, obind, bI_if0, hd, if_neg nTF, in_1, hdy, obind, bI_if0, if_neg nTF, in_1, hdz, obind, bI_if0, if_neg nTF, q1, obind, q2, obind]
          unfold mX12_turn_l41
          refine mdl.trans ?_
          cases fstB (tn T N k fi wi 0) (T 1) <;> rfl
      · refine ⟨-1, I, L, I, ?_, ?_, FrC.rf, FrM.rf⟩
        · rcases ix_cases z with hy | ⟨j, hj, rfl⟩
          · rw [if_pos hy]
          · rw [nI_toInt hj] at hdz
            have := of_decide_eq_false hdz
            rw [if_neg (nI_pos hj), if_pos (show (1 : Int32) < nI j from nI_lt (show 1 < j by omega) hj)]
        · rw [if_pos s433, misCount_ok hm.2.1 h18, obind, bI_if0, hd, if_neg nTF, in_1, obind, bI_if0, hdy, if_neg nTF, in_1, obind, bI_if0, hdz, if_pos rfl]
    · refine ⟨-1, I, L, I, ?_, ?_, FrC.rf, FrM.rf⟩
      · rcases ix_cases y with hy | ⟨j, hj, rfl⟩
        · rw [if_pos hy]
        · rw [nI_toInt hj] at hdy
          have := of_decide_eq_false hdy
          rw [if_neg (nI_pos hj), if_pos (show (1 : Int32) < nI j from nI_lt (show 1 < j by omega) hj)]
      · rw [if_pos s433, misCount_ok hm.2.1 h18, obind, bI_if0, hd, if_neg nTF, in_1, obind, bI_if0, hdy, if_pos rfl]
  · refine ⟨-1, I, L, I, ?_, ?_, FrC.rf, FrM.rf⟩
    · rw [hd, if_pos rfl]
    · rw [if_pos s433, misCount_ok hm.2.1 h18, obind, bI_if0, hd, if_pos rfl]
end QDuel
