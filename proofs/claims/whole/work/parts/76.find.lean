section Find
variable {σ : Sg} {I I' J I1 I2 Ja : Nat → Nat → Int32} {L L' L1 L2 : Nat → Nat → Int64} {T N N' : Nat → Nat} {a a' : Nat} {P P' : Nat → Nat → Nat} {K : Nat → Bool} {Q : Nat → Nat → Nat}
theorem gHist : gR 11 8 100 (hk σ I L) = some 285 := rfl
theorem up415 (r : Nat → Int64) : ∀ x, x ≠ 415 → rowUp L 415 r x = L x := fun x hx => rowUp_ne _ _ hx
theorem EX.make {f how so : Nat} (hW : WT T) (h : EX T N) (hf : f < T 1) (hh : how = 1 ∨ how = 4) (hk' : kn N f = false) (hs : so ≤ 1) (h4 : N 16 = 0 → how ≠ 4) (hs' : sme T N f (decide (so = 1)) = true) : EX T (mkn N f how so) := by
  have w1 := hW.1.2.1
  obtain ⟨w, hw, hl, hb⟩ := sme_ex hs'
  refine ⟨h.1.make hW hf (by omega) hs (fun _ => hh) ⟨w, hw, by rw [lft_new (by omega) hh hk', hl, hb]; rfl⟩, fun hc g hg => ?_⟩
  rw [mkn_hi (by omega) (by omega)] at hc
  rw [mkn_lo (by omega) hg]
  split
  · exact h4 hc
  · exact h.2 hc g hg
theorem EX.off {f how : Nat} (hW : WT T) (h : EX T N) (hf : f < T 1) (hh : how = 0 ∨ how = 2 ∨ how = 3) : EX T (mkn N f how 0) := by
  have w1 := hW.1.2.1
  obtain ⟨w, hw, hl⟩ := h.1.2.2.2.2.2
  refine ⟨h.1.make hW hf (by omega) (by omega) (fun q => by omega) ⟨w, hw, lft_off (by omega) (by omega) hl⟩, fun hc g hg => ?_⟩
  rw [mkn_hi (by omega) (by omega)] at hc
  rw [mkn_lo (by omega) hg]
  split
  · omega
  · exact h.2 hc g hg
theorem pc_fre {T N : Nat → Nat} (hW : WT T) (hN : ∀ f, f < 8 → T 1 ≤ f → N f = 0) : pc (fre T N) + pc (knF N) = T 1 := by
  have w1 := hW.1.2.1
  have e1 : pc (fre T N) = cntB (fun f => !(knF N).testBit f) (T 1) := by
    unfold pc
    rw [cnt_gap w1 fun f h1 _ => by rw [fre_bit, decide_eq_false (by omega), Bool.false_and]]
    exact cntB_congr fun f hf => by rw [fre_bit, decide_eq_true hf, Bool.true_and]
  have e2 : pc (knF N) = cntB (fun f => (knF N).testBit f) (T 1) := by
    unfold pc
    exact cnt_gap w1 fun f h1 h2 => by
      unfold knF
      rw [bs_bit, decide_eq_true h2, Bool.true_and]
      unfold kn
      rw [hN f h2 h1]; rfl
  rw [e1, e2]
  exact cnt_compl _ _ _ fun i _ => by cases (knF N).testBit i <;> rfl
/-- find -/
theorem q_find (h : BI σ I L T N a P K Q) (x : Int32) (is : Bool) : AR σ I L T (mX11_find 100 x (bI is) (hk σ I L)) (fun hp => mX12_find 433 x (bI is) hp) := by
  obtain ⟨h1, h2, h3, ⟨p1, p2, p3, p4, p5, p6, p7⟩, h5, h6⟩ := id h
  have hW := h1.2.1
  have w1 := hW.1.2.1
  have hsa := h1.1.2.1
  obtain ⟨c1, c2, c3⟩ := h.clo
  rcases ixn x (T 1) (by omega) with ⟨f, hf, rfl, hd⟩ | hd
  · have f8 : f < 8 := by omega
    have N4 : ∀ g, g < 8 → N g ≤ 4 := fun g hg => (h3.1.1 g hg).1
    have kF := knF_lt N
    have kb : (knF N).testBit f = kn N f := by unfold knF; rw [bs_bit, decide_eq_true f8, Bool.true_and]
    by_cases hc : N 16 = 0
    · refine AR.no' h (v := -2) ?_ ?_
      · unfold mX11_find
        rw [if_pos s100, cisFact_ok h1, obind, bI_if0, hd, if_neg nTF, gSa, c1, obind, hc, if_pos (show nI 0 = 0 from rfl)]
      · unfold mX12_find
        rw [if_pos s433, misFact_ok h2.1 w1, obind, bI_if0, hd, if_neg nTF, g438, c3, obind, hc, if_pos (show nI 0 = 0 from rfl)]
    · have hc1 : N 16 = 1 := by omega
      cases hk' : kn N f
      · obtain ⟨r, el⟩ := leaves_ok (σ := σ) (L := L) h1 is f8
        cases hs : sme T N f is
        · refine AR.no h (v := -4) (r := r) ?_ ?_
          · unfold mX11_find
            rw [if_pos s100, cisFact_ok h1, obind, bI_if0, hd, if_neg nTF, gSa, c1, obind, hc1, if_neg (show ¬ nI 1 = 0 by decide), gSa, known_ok hsa h1.2.2.2.2, obind, has_nI (by omega) (by omega), obind, bI_if0, kb, hk', if_pos rfl, el, b2s, bI_if0, hs, if_pos rfl]
          · unfold mX12_find mX12_find_b45
            rw [if_pos s433, misFact_ok h2.1 w1, obind, bI_if0, hd, if_neg nTF, g438, c3, obind, hc1, if_neg (show ¬ nI 1 = 0 by decide), isKnown_ok h2.2.1 f8 (by have := N4 f f8; omega), obind, bI_if0, hk', if_pos rfl, bI_if0]
            cases is
            · rw [if_pos rfl, show (0 : Int32) = bI false from rfl, misSome_ok h2 false f8, obind, hs]; rfl
            · rw [if_neg nTF, show (1 : Int32) = bI true from rfl, misSome_ok h2 true f8, obind, hs]; rfl
        · obtain ⟨so, hso⟩ : ∃ so : Nat, so = (if (is && (decide (4 = 1) || decide (4 = 4))) = true then 1 else 0) := ⟨_, rfl⟩
          have so1 : so ≤ 1 := by rw [hso]; split <;> omega
          have sd : decide (so = 1) = is := by rw [hso]; cases is <;> rfl
          have sI' : nI so = bI is := by rw [hso]; cases is <;> rfl
          have hEX : EX T (mkn N f 4 so) := h3.make hW hf (Or.inr rfl) hk' so1 (fun q => absurd q hc) (by rw [sd]; exact hs)
          obtain ⟨Ja, I1, I3, I2, ea, e1, m1, r1, e3, e2, b1, b2⟩ := act_make (L1 := rowUp L 415 r) h is hf (how := 4) (so := so) (by omega) hso hEX (up415 r)
          have pf := pc_fre (T := T) (N := mkn N f 4 so) hW (fun g hg => (hEX.1.1 g hg).2.2.2)
          have fl := fre_lt (N := mkn N f 4 so) hW
          have kl := knF_lt (mkn N f 4 so)
          refine ⟨nI (pc (fre T (mkn N f 4 so))), I1, rowUp L 415 r, I2, rowUp L 415 r, _, _, _, _, _, ?_, ?_, b1, b2⟩
          · unfold mX11_find
            rw [if_pos s100, cisFact_ok h1, obind, bI_if0, hd, if_neg nTF, gSa, c1, obind, hc1, if_neg (show ¬ nI 1 = 0 by decide), gSa, known_ok hsa h1.2.2.2.2, obind, has_nI (by omega) (by omega), obind, bI_if0, kb, hk', if_pos rfl, el, b2s, bI_if0, hs, if_neg nTF, gHist, obind, gSa, ea, obind, gSa, show (4 : Int32) = nI 4 from rfl, e1, obind, unknown_ok r1, obind, cbits_ok _ fl, obind]
          · show mX12_find 433 (nI f) (bI is) (hk σ I1 (rowUp L 415 r)) = _
            have fin : mX12_find_b70 433 433 (nI f) 4 (bI is) (hk σ I3 (rowUp L 415 r)) = some (nI (pc (fre T (mkn N f 4 so))), hk σ I2 (rowUp L 415 r)) := by
              unfold mX12_find_b70
              rw [show (4 : Int32) = nI 4 from rfl, ← sI', e2, obind, g434, ldT1 b1.2.1.1, obind, knownFacts_ok b1.2.1.2.1 (fun g hg => (hEX.1.1 g hg).1), obind, mbits_n kl, obind, nI_sub (by omega), show T 1 - pc (knF (mkn N f 4 so)) = pc (fre T (mkn N f 4 so)) by omega]
            unfold mX12_find mX12_find_b45
            rw [if_pos s433, misFact_ok m1.1 w1, obind, bI_if0, hd, if_neg nTF, g438, show (16 : Int32) = nI 16 from rfl, ldN m1.2.1 (by omega), obind, hc1, if_neg (show ¬ nI 1 = 0 by decide), isKnown_ok m1.2.1 f8 (by have := N4 f f8; omega), obind, bI_if0, hk', if_pos rfl, bI_if0]
            cases is
            · have ms : mX12_isSomeBy 433 (nI f) (0 : Int32) (hk σ I1 (rowUp L 415 r)) = some (1 : Int32) := by
                have := misSome_ok (σ := σ) (L := rowUp L 415 r) m1 false f8
                rw [hs] at this; exact this
              rw [if_pos rfl, ms, obind, if_neg (show ¬ (1 : Int32) = 0 by decide), e3, obind, if_pos (show bI false = 0 from rfl)]; exact fin
            · have ms : mX12_isSomeBy 433 (nI f) (1 : Int32) (hk σ I1 (rowUp L 415 r)) = some (1 : Int32) := by
                have := misSome_ok (σ := σ) (L := rowUp L 415 r) m1 true f8
                rw [hs] at this; exact this
              rw [if_neg nTF, ms, obind, if_neg (show ¬ (1 : Int32) = 0 by decide), e3, obind, if_neg (show ¬ bI true = 0 by decide)]; exact fin
      · refine AR.no' h (v := -3) ?_ ?_
        · unfold mX11_find
          rw [if_pos s100, cisFact_ok h1, obind, bI_if0, hd, if_neg nTF, gSa, c1, obind, hc1, if_neg (show ¬ nI 1 = 0 by decide), gSa, known_ok hsa h1.2.2.2.2, obind, has_nI (by omega) (by omega), obind, bI_if0, kb, hk', if_neg nTF]
        · unfold mX12_find
          rw [if_pos s433, misFact_ok h2.1 w1, obind, bI_if0, hd, if_neg nTF, g438, c3, obind, hc1, if_neg (show ¬ nI 1 = 0 by decide), isKnown_ok h2.2.1 f8 (by have := N4 f f8; omega), obind, bI_if0, hk', if_neg nTF]
  · refine AR.no' h (v := -1) ?_ ?_
    · unfold mX11_find
      rw [if_pos s100, cisFact_ok h1, obind, bI_if0, hd, if_pos rfl]
    · unfold mX12_find
      rw [if_pos s433, misFact_ok h2.1 w1, obind, bI_if0, hd, if_pos rfl]
theorem answer_fin (h : BI σ I L T N a P K Q) {f j wl so : Nat} (hf : f < T 1) (hj : j < 4) (hwl : wl = if j < 2 then 1 else j) (hso : so = if j = 1 then 1 else 0) (hEX : EX T (mkn N f wl so)) (L1f : ∀ x, x ≠ 415 → L1 x = L x) :
    ∃ v I1 I2 N' a' P' K' Q', mX11_answer_b94 100 (nI f) (nI j) (nI wl) (hk σ I L1) = some (v, hk σ I1 L1) ∧ MI I1 T N ∧ mX12_answer_b78 433 (nI f) (nI j) (hk σ I1 L1) = some (v, hk σ I2 L1) ∧ BI σ I2 L1 T N' a' P' K' Q' ∧ Fr0 I L I2 L1 ∧ I1 1 = I 1 := by
  have w1 := h.1.2.1.1.2.1
  have so' : so = if (decide (j = 1) && (decide (wl = 1) || decide (wl = 4))) = true then 1 else 0 := by
    rw [hso, hwl]
    rcases (show j = 0 ∨ j = 1 ∨ j = 2 ∨ j = 3 by omega) with rfl | rfl | rfl | rfl <;> rfl
  have wl4 : wl ≤ 4 := by rw [hwl]; split <;> omega
  obtain ⟨Ja, I1, I3, I2, ea, e1, m1, r1, e3, e2, b1, b2⟩ := act_make (L1 := L1) h (decide (j = 1)) hf wl4 so' hEX L1f
  refine ⟨nI (anw (mkn N f wl so)), I1, I2, _, _, _, _, _, ?_, m1, ?_, b1, b2⟩
  · have fin : ∀ t, t = bI (decide (j = 1)) → mX11_answer_b121 100 (gsa σ) (nI f) (nI wl) t (hk σ Ja L1) = some (nI (anw (mkn N f wl so)), hk σ I1 L1) := fun t ht => by
      unfold mX11_answer_b121
      rw [ht, e1, obind, gSa, canswered_ok r1.1.2.1 r1.2.2.2.2 (fun g hg => (hEX.1.1 g hg).1), obind]
    unfold mX11_answer_b94
    rw [gHist, obind, gSa, ea, obind, gSa, c_1 (by omega)]
    by_cases e : j = 1
    · rw [if_pos e]; exact fin _ (by rw [decide_eq_true e]; rfl)
    · rw [if_neg e]; exact fin _ (by rw [decide_eq_false e]; rfl)
  · have fin : ∀ t u, t = nI wl → u = nI so → mX12_answer_b104 433 433 (nI f) t u (hk σ I3 L1) = some (nI (anw (mkn N f wl so)), hk σ I2 L1) := fun t u ht hu => by
      unfold mX12_answer_b104
      rw [ht, hu, e2, obind, manswered_ok b1.2.1.1 b1.2.1.2.1 w1 (fun g hg => ⟨(hEX.1.1 g hg).1, (hEX.1.1 g hg).2.2.2⟩), obind]
    have fin2 : ∀ t, t = nI wl → mX12_answer_b94 433 (nI j) 433 (nI f) t (hk σ I3 L1) = some (nI (anw (mkn N f wl so)), hk σ I2 L1) := fun t ht => by
      unfold mX12_answer_b94
      rw [c_1 (by omega)]
      by_cases e : j = 1
      · rw [if_pos e]; exact fin _ _ ht (by rw [hso, if_pos e]; rfl)
      · rw [if_neg e]; exact fin _ _ ht (by rw [hso, if_neg e]; rfl)
    unfold mX12_answer_b78
    rw [e3, obind, show (2 : Int32) = nI 2 from rfl, c_ltd (by omega) (by omega)]
    by_cases e : j < 2
    · rw [if_pos e]; exact fin2 _ (by rw [hwl, if_pos e]; rfl)
    · rw [if_neg e]; exact fin2 _ (by rw [hwl, if_neg e])
/-- answer -/
theorem q_answer (h : BI σ I L T N a P K Q) (x y : Int32) : AR σ I L T (mX11_answer 100 x y (hk σ I L)) (fun hp => mX12_answer 433 x y hp) := by
  obtain ⟨h1, h2, h3, ⟨p1, p2, p3, p4, p5, p6, p7⟩, h5, h6⟩ := id h
  have hW := h1.2.1
  have w1 := hW.1.2.1
  have hsa := h1.1.2.1
  obtain ⟨c1, c2, c3⟩ := h.clo
  rcases ixn x (T 1) (by omega) with ⟨f, hf, rfl, hd⟩ | hd
  · have f8 : f < 8 := by omega
    have N4 : ∀ g, g < 8 → N g ≤ 4 := fun g hg => (h3.1.1 g hg).1
    have Nf := N4 f f8
    rcases ixn y 4 (by omega) with ⟨j, hj, rfl, hdy⟩ | hdy
    · have j3 : ¬ (3 : Int32) < nI j := by rcases (show j = 0 ∨ j = 1 ∨ j = 2 ∨ j = 3 by omega) with rfl | rfl | rfl | rfl <;> decide
      by_cases hc : N 16 = 0
      · have n4 := h3.2 hc f f8
        have kne : kn N f = decide (N f = 1) := by unfold kn; rw [decide_eq_false n4, Bool.or_false]
        have clsA : mX11_answer 100 (nI f) (nI j) (hk σ I L) = if j < 2 then mX11_answer_b42 100 (nI f) (nI j) (nI 1) (hk σ I L) else mX11_answer_b42 100 (nI f) (nI j) (nI j) (hk σ I L) := by
          unfold mX11_answer
          rw [if_pos s100, cisFact_ok h1, obind, bI_if0, hd, if_neg nTF, if_neg (nI_pos (show j < 2 ^ 31 by omega)), if_neg j3, gSa, c1, obind, hc, if_pos (show nI 0 = 0 from rfl), show (2 : Int32) = nI 2 from rfl, c_ltd (by omega) (by omega)]
          rfl
        have clsB : ∀ wl, wl < 4 → mX11_answer_b42 100 (nI f) (nI j) (nI wl) (hk σ I L) = if N f = 1 then some (-3, hk σ I L) else if N f = wl then some (-3, hk σ I L) else if wl = 1 then (if j = 1 then mX11_answer_b85 100 (nI f) (nI j) (nI wl) 100 (nI f) 1 (hk σ I L) else mX11_answer_b85 100 (nI f) (nI j) (nI wl) 100 (nI f) 0 (hk σ I L)) else mX11_answer_b94 100 (nI f) (nI j) (nI wl) (hk σ I L) := fun wl hwl => by
          unfold mX11_answer_b42
          rw [gSa, howIs_ok h1 f8, obind, c_1 (by omega), c_eqd (by omega) (by omega), c_1 (by omega), c_1 (by omega)]
        have mdlA : ∀ {I1 L1}, MI I1 T N → mX12_answer 433 (nI f) (nI j) (hk σ I1 L1) = if kn N f = false then (if 1 < j then (if N f = j then some (-3, hk σ I1 L1) else mX12_answer_b61 433 (nI f) (nI j) (hk σ I1 L1)) else mX12_answer_b61 433 (nI f) (nI j) (hk σ I1 L1)) else some (-3, hk σ I1 L1) := fun {I1 L1} m => by
          unfold mX12_answer
          rw [if_pos s433, misFact_ok m.1 w1, obind, bI_if0, hd, if_neg nTF, in_3, hdy, obind, bI_if0, if_neg nTF, g438, show (16 : Int32) = nI 16 from rfl, ldN m.2.1 (by omega), obind, hc, if_neg (show ¬ nI 0 = 1 by decide), isKnown_ok m.2.1 f8 (by omega), obind, bI_if0, g438, show (0 : Int32) = nI 0 from rfl, nI_add, Nat.zero_add, ldN m.2.1 (by omega), obind, c_eqd (by omega) (by omega), show (1 : Int32) = nI 1 from rfl, c_ltd (by omega) (by omega)]
        by_cases h1' : N f = 1
        · refine AR.no' h (v := -3) ?_ ?_
          · rw [clsA]
            split
            · rw [clsB 1 (by omega), if_pos h1']
            · rw [clsB j (by omega), if_pos h1']
          · show mX12_answer 433 (nI f) (nI j) (hk σ I L) = _
            rw [mdlA h2, kne, decide_eq_true h1', if_neg (by decide)]
        · have kf : kn N f = false := by rw [kne]; exact decide_eq_false h1'
          by_cases hj2 : j < 2
          · have jb : nI j = bI (decide (j = 1)) := by rcases (show j = 0 ∨ j = 1 by omega) with rfl | rfl <;> rfl
            obtain ⟨r, el⟩ := leaves_ok (σ := σ) (L := L) h1 (decide (j = 1)) f8
            have cls : mX11_answer 100 (nI f) (nI j) (hk σ I L) = mX11_answer_b85 100 (nI f) (nI j) (nI 1) 100 (nI f) (bI (decide (j = 1))) (hk σ I L) := by
              rw [clsA, if_pos hj2, clsB 1 (by omega), if_neg h1', if_neg h1', if_pos rfl]
              by_cases e : j = 1
              · rw [if_pos e, decide_eq_true e]; rfl
              · rw [if_neg e, decide_eq_false e]; rfl
            have mdl : ∀ {I1 L1}, MI I1 T N → mX12_answer 433 (nI f) (nI j) (hk σ I1 L1) = if sme T N f (decide (j = 1)) = false then some (-4, hk σ I1 L1) else mX12_answer_b78 433 (nI f) (nI j) (hk σ I1 L1) := fun {I1 L1} m => by
              rw [mdlA m, if_pos kf, if_neg (show ¬ 1 < j by omega)]
              unfold mX12_answer_b61
              rw [show (2 : Int32) = nI 2 from rfl, c_lt hj2 (by omega)]
              have := misSome_ok (σ := σ) (L := L1) m (decide (j = 1)) f8
              rw [← jb] at this
              rw [this, obind, bI_if0]
            cases hs : sme T N f (decide (j = 1))
            · refine AR.no h (v := -4) (r := r) ?_ ?_
              · rw [cls]
                unfold mX11_answer_b85
                rw [el, b2s, bI_if0, hs, if_pos rfl]
              · show mX12_answer 433 (nI f) (nI j) (hk σ I (rowUp L 415 r)) = _
                rw [mdl h2, hs, if_pos rfl]
            · obtain ⟨so, hso⟩ : ∃ so : Nat, so = if j = 1 then 1 else 0 := ⟨_, rfl⟩
              have sd : decide (so = 1) = decide (j = 1) := by
                rw [hso]
                by_cases e : j = 1
                · rw [if_pos e, decide_eq_true e]; rfl
                · rw [if_neg e, decide_eq_false e]; rfl
              have hEX : EX T (mkn N f 1 so) := h3.make hW hf (Or.inl rfl) kf (by rw [hso]; split <;> omega) (fun _ => by omega) (by rw [sd]; exact hs)
              obtain ⟨v, I1, I2, N', a', P', K', Q', e1, m1, e2, b1, b2⟩ := answer_fin (L1 := rowUp L 415 r) h hf hj (by rw [if_pos hj2]) hso hEX (up415 r)
              refine ⟨v, I1, rowUp L 415 r, I2, rowUp L 415 r, N', a', P', K', Q', ?_, ?_, b1, b2⟩
              · rw [cls]
                unfold mX11_answer_b85
                rw [el, b2s, bI_if0, hs, if_neg nTF]
                exact e1
              · show mX12_answer 433 (nI f) (nI j) (hk σ I1 (rowUp L 415 r)) = _
                rw [mdl m1, hs, if_neg nTF]
                exact e2
          · by_cases hjf : N f = j
            · refine AR.no' h (v := -3) ?_ ?_
              · rw [clsA, if_neg hj2, clsB j (by omega), if_neg h1', if_pos hjf]
              · show mX12_answer 433 (nI f) (nI j) (hk σ I L) = _
                rw [mdlA h2, if_pos kf, if_pos (show 1 < j by omega), if_pos hjf]
            · have hEX : EX T (mkn N f j 0) := h3.off hW hf (by omega)
              obtain ⟨v, I1, I2, N', a', P', K', Q', e1, m1, e2, b1, b2⟩ := answer_fin (L1 := L) h hf hj (wl := j) (by rw [if_neg hj2]) (by rw [if_neg (show ¬ j = 1 by omega)]) hEX (fun _ _ => rfl)
              refine ⟨v, I1, L, I2, L, N', a', P', K', Q', ?_, ?_, b1, b2⟩
              · rw [clsA, if_neg hj2, clsB j (by omega), if_neg h1', if_neg hjf, if_neg (show ¬ j = 1 by omega)]
                exact e1
              · show mX12_answer 433 (nI f) (nI j) (hk σ I1 L) = _
                rw [mdlA m1, if_pos kf, if_pos (show 1 < j by omega), if_neg hjf]
                unfold mX12_answer_b61
                rw [show (2 : Int32) = nI 2 from rfl, c_nlt (by omega) (by omega)]
                exact e2
      · have hc1 : N 16 = 1 := by omega
        refine AR.no' h (v := -2) ?_ ?_
        · unfold mX11_answer
          rw [if_pos s100, cisFact_ok h1, obind, bI_if0, hd, if_neg nTF, if_neg (nI_pos (show j < 2 ^ 31 by omega)), if_neg j3, gSa, c1, obind, hc1, if_neg (show ¬ nI 1 = 0 by decide)]
        · unfold mX12_answer
          rw [if_pos s433, misFact_ok h2.1 w1, obind, bI_if0, hd, if_neg nTF, in_3, hdy, obind, bI_if0, if_neg nTF, g438, c3, obind, hc1, if_pos (show nI 1 = 1 from rfl)]
    · refine AR.no' h (v := -1) ?_ ?_
      · unfold mX11_answer
        rw [if_pos s100, cisFact_ok h1, obind, bI_if0, hd, if_neg nTF]
        rcases ix_cases y with hy | ⟨j, hj, rfl⟩
        · rw [if_pos hy]
        · rw [nI_toInt hj] at hdy
          have := of_decide_eq_false hdy
          rw [if_neg (nI_pos hj), if_pos (show (3 : Int32) < nI j from nI_lt (show 3 < j by omega) hj)]
      · unfold mX12_answer
        rw [if_pos s433, misFact_ok h2.1 w1, obind, bI_if0, hd, if_neg nTF, in_3, obind, bI_if0, hdy, if_pos rfl]
  · refine AR.no' h (v := -1) ?_ ?_
    · unfold mX11_answer
      rw [if_pos s100, cisFact_ok h1, obind, bI_if0, hd, if_pos rfl]
    · unfold mX12_answer
      rw [if_pos s433, misFact_ok h2.1 w1, obind, bI_if0, hd, if_pos rfl]
end Find
