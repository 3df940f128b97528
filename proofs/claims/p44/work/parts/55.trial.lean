section Trial
variable {σ : Sg} {I I' J I1 I2 : Nat → Nat → Int32} {L L' L1 L2 : Nat → Nat → Int64}
/-- the facts that are not known -/
def fre (T N : Nat → Nat) : Nat := (2 ^ T 1 - 1) ^^^ ((2 ^ T 1 - 1) &&& knF N)
theorem fre_bit (T N : Nat → Nat) (i : Nat) : (fre T N).testBit i = (decide (i < T 1) && !(knF N).testBit i) := by
  unfold fre
  rw [Nat.testBit_xor, Nat.testBit_and, Nat.testBit_two_pow_sub_one]
  cases decide (i < T 1) <;> cases (knF N).testBit i <;> rfl
theorem fre_lt {T N : Nat → Nat} (hW : WT T) : fre T N < 256 := by
  have w1 := hW.1.2.1
  have h : 2 ^ T 1 - 1 < 2 ^ 8 := by have := Nat.pow_le_pow_right (n := 2) (by omega) w1; omega
  exact Nat.xor_lt_two_pow (n := 8) h (Nat.lt_of_le_of_lt Nat.and_le_left h)
theorem unknown_ok {T N : Nat → Nat} (h : CR σ I L T N) : mX11_unknown 100 (hk σ I L) = some (nI (fre T N)) := by
  have hW := h.2.1
  have w1 := hW.1.2.1
  have p1 : 2 ^ T 1 ≤ 256 := ev_lt w1
  have p0 : 0 < 2 ^ T 1 := Nat.two_pow_pos _
  have hq : nI (2 ^ T 1) - 1 = nI (2 ^ T 1 - 1) := by
    obtain ⟨m, hm⟩ : ∃ m, 2 ^ T 1 = m + 1 := ⟨2 ^ T 1 - 1, by omega⟩
    rw [hm, nI_pred]; rfl
  unfold mX11_unknown
  rw [if_pos s100, gLa, gI_la h.1.1, obind, h.2.2.2.1.1.2.1, gSa, known_ok h.1.2.1 h.2.2.2.2, obind, shl1 (by omega), hq, nx_not (show 2 ^ T 1 - 1 < 2 ^ 32 by omega)]; rfl
/-- marks by counts -/
def mv (a b : Nat) : Nat := if b = 0 then (if a = 0 then 0 else 2) else if b = a then 1 else 3
def lvT (T N : Nat → Nat) (k w : Nat) : Nat := if lft T N w = true then (if won T (it N k 0) w = true then 1 else 2) else 0
theorem agw_nd {n fs so v : Nat} (hn : n ≤ 8) (hf : ∀ i, fs.testBit i = true → i < n) (hs : sb so fs) : agw n (nd fs so) v = decide (v &&& fs = so) := by
  apply Bool.eq_iff_iff.mpr
  unfold agw
  rw [allB_iff, decide_eq_true_iff]
  constructor
  · intro h
    apply Nat.eq_of_testBit_eq
    intro i
    rw [Nat.testBit_and]
    cases e : fs.testBit i
    · cases e2 : so.testBit i
      · rw [Bool.and_false]
      · rw [hs i e2] at e; cases e
    · have hi := hf i e
      have h1 := h i hi
      rw [dg_nd _ _ (by omega)] at h1
      revert h1
      unfold b1 bNw
      rw [e]
      cases so.testBit i <;> cases v.testBit i <;> simp
  · intro h f hfn
    rw [dg_nd _ _ (by omega)]
    have h1 := congrArg (fun x => x.testBit f) h
    simp only [Nat.testBit_and] at h1
    unfold b1 bNw
    revert h1
    cases v.testBit f <;> cases fs.testBit f <;> cases so.testBit f <;> simp
theorem inT_l {T N : Nat → Nat} {fs so v : Nat} (hl : lft T N v = true) : inT (fre T N) (knS N) fs so v = decide (v &&& fs = so) := by
  have hv := lft_lt hl
  have hk : v &&& knF N = knS N := by
    unfold lft agr at hl
    rw [Bool.and_eq_true] at hl
    exact of_decide_eq_true hl.2
  have e : v = (v &&& fre T N) ||| knS N := by
    apply Nat.eq_of_testBit_eq
    intro i
    have h1 := congrArg (fun x => x.testBit i) hk
    simp only [Nat.testBit_and] at h1
    rw [Nat.testBit_or, Nat.testBit_and, fre_bit, ← h1]
    by_cases hi : i < T 1
    · rw [decide_eq_true hi]
      cases v.testBit i <;> cases (knF N).testBit i <;> rfl
    · have : v.testBit i = false := Nat.testBit_lt_two_pow (Nat.lt_of_lt_of_le hv (Nat.pow_le_pow_right (by omega) (by omega)))
      rw [this]; rfl
  unfold inT
  rw [decide_eq_true e, Bool.true_and]
theorem mk_mv {T N : Nat → Nat} (hW : WT T) {k fs so : Nat} (hf : sb fs (fre T N)) (hs : sb so fs) : mk (lvT T N k) (fre T N) (knS N) fs so = mv (cn (lft T N) (T 1) (nd fs so)) (cn (lw T N k) (T 1) (nd fs so)) := by
  have w1 := hW.1.2.1
  have hfn : ∀ i, fs.testBit i = true → i < T 1 := fun i hi => by
    have := hf i hi
    rw [fre_bit, Bool.and_eq_true] at this
    exact of_decide_eq_true this.1
  unfold mk cn
  have key : ∀ n, og (fun v => if inT (fre T N) (knS N) fs so v = true then lvT T N k v else 0) n = mv (cntB (fun w => lft T N w && agw (T 1) (nd fs so) w) n) (cntB (fun w => lw T N k w && agw (T 1) (nd fs so) w) n) := by
    intro n
    induction n with
    | zero => rfl
    | succ n ih =>
      have le : cntB (fun w => lw T N k w && agw (T 1) (nd fs so) w) n ≤ cntB (fun w => lft T N w && agw (T 1) (nd fs so) w) n := cntB_leq fun w _ hw => by
        unfold lw at hw
        cases hl : lft T N w
        · rw [hl] at hw; cases hw
        · rw [hl] at hw
          rw [Bool.true_and, Bool.and_eq_true] at hw
          rw [hw.2]; rfl
      rw [ogS, cntS, cntS, ih]
      generalize cntB (fun w => lw T N k w && agw (T 1) (nd fs so) w) n = b at le ⊢
      generalize cntB (fun w => lft T N w && agw (T 1) (nd fs so) w) n = a at le ⊢
      cases hl : lft T N n
      · have e1 : lvT T N k n = 0 := by unfold lvT; rw [hl]; rfl
        have e2 : lw T N k n = false := by unfold lw; rw [hl]; rfl
        rw [e1, e2]
        simp
      · rw [inT_l hl, agw_nd w1 hfn hs]
        by_cases hv : n &&& fs = so
        · rw [decide_eq_true hv]
          unfold lvT lw mv
          rw [hl]
          cases won T (it N k 0) n
          · simp only [Bool.and_true, Bool.and_false, if_true, if_false, Bool.false_eq_true, Nat.add_zero]
            by_cases b0 : b = 0
            · rw [if_pos b0, if_pos b0, if_neg (show ¬ a + 1 = 0 by omega)]
              by_cases a0 : a = 0
              · rw [if_pos a0]; rfl
              · rw [if_neg a0]; rfl
            · rw [if_neg b0, if_neg b0, if_neg (show ¬ b = a + 1 by omega)]
              by_cases ba : b = a
              · rw [if_pos ba]; rfl
              · rw [if_neg ba]; rfl
          · simp only [Bool.and_true, if_true]
            rw [if_neg (show ¬ b + 1 = 0 by omega)]
            by_cases b0 : b = 0
            · rw [if_pos b0]
              by_cases a0 : a = 0
              · rw [if_pos a0, if_pos (by omega)]; rfl
              · rw [if_neg a0, if_neg (by omega)]; rfl
            · rw [if_neg b0]
              by_cases ba : b = a
              · rw [if_pos ba, if_pos (by omega)]; rfl
              · rw [if_neg ba, if_neg (by omega)]; rfl
        · rw [decide_eq_false hv]
          simp
  exact key 256
/-- what stands in the tree -/
def TR (T N : Nat → Nat) (k : Nat) (I : Nat → Nat → Int32) : Prop := I 420 4 = nI (fre T N) ∧ ∀ fs so, sb fs (fre T N) → sb so fs → I 423 (nd fs so) = nI (mv (cn (lft T N) (T 1) (nd fs so)) (cn (lw T N k) (T 1) (nd fs so)))
theorem growTrial_ok {T N : Nat → Nat} (h : CR σ I L T N) (hTh : Th I) {k : Nat} (hk' : k < N 18) : ∃ I1 L1, mX11_growTrial 100 (nI k) (hk σ I L) = some (hk σ I1 L1) ∧ FrC I L I1 L1 ∧ Rw (L1 415) (lft T N) ∧ TR T N k I1 := by
  have hW := h.2.1
  have hsa := h.1.2.1
  obtain ⟨r, e1, hr⟩ := remember_ok h
  have h2 : CR σ I (rowUp L 415 r) T N := h.upL (by omega)
  obtain ⟨w1, w2, w3⟩ := h2.wonR hk'
  unfold mX11_growTrial
  rw [if_pos s100, e1, obind, gLa, ckind_ok h2 hk', obind, w3, obind]
  unfold mX11_growTrial_l19
  have hr' : Rw ((rowUp L 415 r) 415) (lft T N) := by rw [rowUp_same]; exact hr
  have lf : ∀ r0 w, w < 256 → mX10_holds 414 (nI w) (hk σ (rowUp I 422 r0) (rowUp L 415 r)) = some (bI (lft T N w)) := fun r0 w hw => holds_ok wLeft (by rw [hpL_hk'']; exact hr') hw
  have wf : ∀ r0 w, w < 256 → mX10_holds (gla σ + 16 + 2 * (26 + it N k 0)) (nI w) (hk σ (rowUp I 422 r0) (rowUp L 415 r)) = some (bI (won T (it N k 0) w)) := fun r0 w hw => holds_ok (wTab h.1.1 (by have := (h.2.2.1.2.2.2.2.1 k hk').1; have := hW.1.2.2.1; omega)) (by rw [hpL_hk'']; exact w2) hw
  obtain ⟨o, e, I1, L1, rfl, q1, q2, q3⟩ := lp_inv (f := fun s : Int32 × Hp => mX11_growTrial_l19f 100 (gla σ + 16 + 2 * (26 + it N k 0)) s.1 s.2) 256 (fun i st => ∃ r0, st = (nI i, hk σ (rowUp I 422 r0) (rowUp L 415 r)) ∧ ∀ w, w < i → r0 w = nI (lvT T N k w))
    (fun o => ∃ I1 L1, o = hk σ I1 L1 ∧ FrC I L I1 L1 ∧ Rw (L1 415) (lft T N) ∧ TR T N k I1)
    (fun i st hi hQ => by
      obtain ⟨r0, rfl, h0⟩ := hQ
      have put : ∀ v : Nat, v = lvT T N k i → ∃ t, mX11_growTrial_b59 100 (gla σ + 16 + 2 * (26 + it N k 0)) (nI i) 420 (nI i) (nI v) (hk σ (rowUp I 422 r0) (rowUp L 415 r)) = some (.inl t) ∧ ∃ r0, t = (nI (i + 1), hk σ (rowUp I 422 r0) (rowUp L 415 r)) ∧ ∀ w, w < i + 1 → r0 w = nI (lvT T N k w) := by
        intro v hv
        unfold mX11_growTrial_b59 mX9_setLeaf
        rw [if_pos s420, g9, RF_420_1, put_nI (n := 256) rfl (by omega) hi, obind, setI_hk, rowUp_two, hpI_hk', rowUp_same, obind, nI_1]
        refine ⟨_, rfl, _, rfl, fun w hw => ?_⟩
        rw [updA_at]
        by_cases q : w = i
        · subst q; rw [if_pos rfl, hv]
        · rw [if_neg q]; exact h0 w (by omega)
      show ∃ t, mX11_growTrial_l19f 100 (gla σ + 16 + 2 * (26 + it N k 0)) (nI i) (hk σ (rowUp I 422 r0) (rowUp L 415 r)) = some (.inl t) ∧ _
      unfold mX11_growTrial_l19f
      rw [show (256 : Int32) = nI 256 from rfl, c_lt hi (by omega), gTree, gLeft, lf _ _ hi, obind, bI_if0, wf _ _ hi, obind, bI_if0]
      rcases Bool.eq_false_or_eq_true (lft T N i) with q | q
      · rw [q, if_neg nTF]
        rcases Bool.eq_false_or_eq_true (won T (it N k 0) i) with q2 | q2
        · rw [q2, if_neg nTF]; exact put 1 (by unfold lvT; rw [q, q2]; rfl)
        · rw [q2, if_pos rfl]; exact put 2 (by unfold lvT; rw [q, q2]; rfl)
      · rw [q, if_pos rfl]; exact put 0 (by unfold lvT; rw [q]; rfl))
    (fun st hQ => by
      obtain ⟨r0, rfl, h0⟩ := hQ
      have f0 : FrC I L (rowUp I 422 r0) (rowUp L 415 r) := (FrC.rf.upL _ (by unfold scC; omega)).upI _ (by unfold scC; omega)
      have hx : CR σ (rowUp I 422 r0) (rowUp L 415 r) T N := h.fr f0
      have f12 : fre T N &&& knS N = 0 := by
        apply Nat.eq_of_testBit_eq; intro i
        have h1 := congrArg (fun x => x.testBit i) (knS_sub N)
        simp only [Nat.testBit_and] at h1
        rw [Nat.testBit_and, fre_bit, Nat.zero_testBit, ← h1]
        cases decide (i < T 1) <;> cases (knF N).testBit i <;> cases (knS N).testBit i <;> rfl
      obtain ⟨r3, e3, h3⟩ := grow_ok (σ := σ) (L := rowUp L 415 r) (hTh.up (a := 422) r0 (by decide)) (lv := lvT T N k) (fun w hw => by rw [rowUp_same]; exact h0 w hw) (fre_lt (N := N) hW) (knS_lt N) f12
      refine ⟨_, ?_, _, _, rfl, (f0.upI (a := 420) (updA (rowUp I 422 r0 420) 4 (nI (fre T N))) (by unfold scC; omega)).upI (a := 423) r3 (by unfold scC; omega), hr', ?_, fun fs so a1 a2 => ?_⟩
      · show mX11_growTrial_l19f 100 (gla σ + 16 + 2 * (26 + it N k 0)) (nI 256) (hk σ (rowUp I 422 r0) (rowUp L 415 r)) = _
        unfold mX11_growTrial_l19f
        rw [if_neg (by decide), gTree, unknown_ok hx, obind, gSa, gI_st hsa, obind, hx.2.2.2.2.1.2.2.2.2.2.2.2.2, gSa, known_ok hsa hx.2.2.2.2, obind, nx_and, knS_sub, e3, obind, xts]
      · rw [rowUp_at, if_neg (by decide), rowUp_same, updA_same]
      · rw [rowUp_same, h3 fs so a1 a2, mk_mv hW a1 a2]) (s := (nI 0, hk σ (rowUp I 422 (I 422)) (rowUp L 415 r))) ⟨I 422, rfl, fun w hw => absurd hw (Nat.not_lt_zero _)⟩
  rw [rowUp_id] at e
  exact ⟨I1, L1, e, q1, q2, q3⟩
end Trial
