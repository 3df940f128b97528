section Several
variable {σ τ : Sg} {I I' J J' I1 I2 I3 Ja : Nat → Nat → Int32} {L L' M M' L1 L2 : Nat → Nat → Int64} {X : Nat → Nat} {n m i la off t1 t2 fl pl dp h0 N kk : Nat} {W : Nat → List Nat} {T T' : Nat → Nat}
theorem lsw4 {α : Type} {c : Nat} (hc : c < 1000) (a b d e f : α) : lsw (nI c) [(2, a), (3, b), (33, d), (40, e)] f = if c = 2 then a else if c = 3 then b else if c = 33 then d else if c = 40 then e else f := by
  have e0 : (nI c).toInt = (c : Int) := nI_toInt (by omega)
  simp only [lsw, e0]
  by_cases h1 : c = 2
  · rw [if_pos (by omega), if_pos h1]
  rw [if_neg (by omega), if_neg h1]
  by_cases h2 : c = 3
  · rw [if_pos (by omega), if_pos h2]
  rw [if_neg (by omega), if_neg h2]
  by_cases h3 : c = 33
  · rw [if_pos (by omega), if_pos h3]
  rw [if_neg (by omega), if_neg h3]
  by_cases h4 : c = 40
  · rw [if_pos (by omega), if_pos h4]
  rw [if_neg (by omega), if_neg h4]
/-- one too many -/
theorem seventh_ok (h : PE I J M X n m i la off W t1 t2 T dp) (hla : isLa la) (hg : gpl σ = la) : ∃ f, 1 ≤ f ∧ f ≤ 5 ∧ mX2_seventhFault 282 (hk σ I L) = some (nI f) ∧ ∃ J', mX12_oneTooMany 433 (hk τ J M) = some (hk τ J' M) ∧ MFl J' f (pz X n i) ∧ MF2 J M J' M := by
  have hlt := ck_lt X n (pz X n i)
  obtain ⟨k3, k100⟩ := mtk3 X n (pz X n i)
  have t8 := h.2.2.1.1
  obtain ⟨u4, w4, r4, f4⟩ := wrong_ok (σ := τ) h.2.1 (f := 4) (by omega) (by omega)
  have w4 : mX12_wrong 433 (4 : Int32) (hk τ J M) = some (hk τ (rowUp J 433 u4) M) := w4
  unfold mX2_seventhFault mX12_oneTooMany mX12_oneTooMany_b27 mX12_oneTooMany_b57
  rw [if_pos s282, if_pos s433, nextKind_ok h.1, obind, lsw4 hlt, gMI, obind, h.2.1.2.1.2.2.1, show (3 : Int32) = nI 3 from rfl, c_eqd (by omega) (by omega), show (33 : Int32) = nI 33 from rfl, show (40 : Int32) = nI 40 from rfl, isSign_ok h.2.1.2.1 h.2.1.2.2 (by decide), obind, isSign_ok h.2.1.2.1 h.2.1.2.2 (by decide), obind]
  by_cases q3 : ck X n (pz X n i) = 3
  · rw [if_neg (show ¬ ck X n (pz X n i) = 2 by omega), if_pos q3, if_pos (k3.mpr q3), nextValue_ok h.1, obind, gMI, obind, h.2.1.2.1.2.2.2.1]
    rw [if_neg (show ¬ ck X n (pz X n i) = 1 by omega)] at r4
    rcases tkc_all X n (pz X n i) with ⟨_, e1, e2⟩ | ⟨_, e1, e2⟩ | ⟨w', _, hw', e1, e2, e3⟩ | ⟨l, _, hl, e1, e2, e3, e4, e5⟩ | ⟨_, e1, e2, e3, e4⟩ | ⟨_, e1, e2, e3⟩
    · omega
    · omega
    · omega
    · omega
    · have hin : mX12_in (nI (mvl X n (pz X n i))) (0 : Int32) (6 : Int32) = some (bI (decide (0 ≤ mvl X n (pz X n i) ∧ mvl X n (pz X n i) ≤ 6))) := in_ok (lo := 0) (hi := 6) (by omega) (by omega) (by omega)
      rw [hin, obind, e3]
      by_cases q : cv X n (pz X n i) ≤ 6
      · refine ⟨4, by omega, by omega, by rw [if_neg (show ¬ (6 : Int32) < nI (cv X n (pz X n i)) from nI_nlt (a := 6) q (by omega))]; rfl, _, ?_, r4, f4⟩
        rw [decide_eq_true (show 0 ≤ cv X n (pz X n i) ∧ cv X n (pz X n i) ≤ 6 from ⟨Nat.zero_le _, q⟩), if_neg (by decide), w4, obind, wrong_bad r4, obind]
      · obtain ⟨u2, w2, r2, f2⟩ := wrong_ok (σ := τ) h.2.1 (f := 2) (by omega) (by omega)
        have w2 : mX12_wrong 433 (2 : Int32) (hk τ J M) = some (hk τ (rowUp J 433 u2) M) := w2
        rw [if_neg (show ¬ ck X n (pz X n i) = 1 by omega)] at r2
        refine ⟨2, by omega, by omega, by rw [if_pos (show (6 : Int32) < nI (cv X n (pz X n i)) from nI_lt (a := 6) (by omega) (by omega))]; rfl, _, ?_, r2, f2⟩
        rw [decide_eq_false (show ¬ (0 ≤ cv X n (pz X n i) ∧ cv X n (pz X n i) ≤ 6) by omega), if_pos (show bI false = 0 from rfl), w2, obind, wrong_bad r2, obind]
    · have := mrk_c e1; omega
  · rw [if_neg (fun z => q3 (k3.mp z)), if_neg q3]
    by_cases q33 : ck X n (pz X n i) = 33
    · rw [if_neg (show ¬ ck X n (pz X n i) = 1 by omega)] at r4
      refine ⟨4, by omega, by omega, by rw [if_neg (show ¬ ck X n (pz X n i) = 2 by omega), if_pos q33]; rfl, _, ?_, r4, f4⟩
      rw [if_neg (show ¬ bI (decide (ck X n (pz X n i) = 33)) = 0 by rw [decide_eq_true q33]; decide), w4, obind]
    · rw [if_neg q33, if_pos (show bI (decide (ck X n (pz X n i) = 33)) = 0 by rw [decide_eq_false q33]; rfl)]
      by_cases q40 : ck X n (pz X n i) = 40
      · rw [if_neg (show ¬ ck X n (pz X n i) = 1 by omega)] at r4
        refine ⟨4, by omega, by omega, by rw [if_neg (show ¬ ck X n (pz X n i) = 2 by omega), if_pos q40]; rfl, _, ?_, r4, f4⟩
        rw [if_neg (show ¬ bI (decide (ck X n (pz X n i) = 40)) = 0 by rw [decide_eq_true q40]; decide), w4, obind]
      · rw [if_neg q40, if_pos (show bI (decide (ck X n (pz X n i) = 40)) = 0 by rw [decide_eq_false q40]; rfl)]
        obtain ⟨m1, m2, m3⟩ := mhere_ok (σ := τ) h.2.1 h.2.2.2.1 true (fun z => by cases z)
        by_cases q2 : ck X n (pz X n i) = 2
        · obtain ⟨l, hl, ev, ew⟩ := ck_name q2
          rw [if_pos q2, gDr, nextValue_ok h.1, obind, ev, cfact_ok (by rw [hg]; exact h.2.2.1) (by rw [hg]; exact hla) hl, obind]
          cases ho : fstB (fun f => decide (W f = l)) t1 with
          | some f =>
            have hf := (fstB_some.mp ho).1
            have y : mX12_here 433 (1 : Int32) (hk τ J M) = _ := m1 l hl q2 ew f ho
            rw [if_neg (show ¬ ck X n (pz X n i) = 1 by omega)] at r4
            refine ⟨4, by omega, by omega, by rw [if_neg (show ¬ oI (some f) < 0 from nI_pos (by omega))]; rfl, _, ?_, r4, f4⟩
            rw [y, b2s, w4, obind]
          | none =>
            obtain ⟨J', y, y2, y3⟩ := m2 l hl q2 ew ho
            have y : mX12_here 433 (1 : Int32) (hk τ J M) = _ := y
            refine ⟨3, by omega, by omega, by rw [if_pos (show oI none < 0 by decide)], _, ?_, y2, y3⟩
            rw [y, b2s, wrong_bad y2, obind]
        · obtain ⟨J', y, y2, y3⟩ := m3 q2
          have y : mX12_here 433 (1 : Int32) (hk τ J M) = _ := y
          refine ⟨1, by omega, by omega, by rw [if_neg q2]; rfl, _, ?_, y2, y3⟩
          rw [y, b2s, wrong_bad y2, obind]
def SR (σ τ : Sg) (I J : Nat → Nat → Int32) (L M : Nat → Nat → Int64) (X : Nat → Nat) (n m i la off : Nat) (W : Nat → List Nat) (t1 t2 : Nat) (T : Nat → Nat) (dp ha hb : Nat) (cls : Option (Int32 × Hp)) (mdl : Option Hp) : Prop :=
  (∃ I' J' M' i' T', cls = some (1, hk σ I' L) ∧ mdl = some (hk τ J' M') ∧ PE I' J' M' X n m i' la off W t1 t2 T' dp ∧ i ≤ i' ∧ T' 7 + i ≤ T 7 + i' ∧ (∀ j, j ≠ 7 → j < 150 + T 7 → T' j = T j) ∧ RG t1 (cT T') (T 7) (T' 7) ha hb ∧ CF3 la I I' ∧ MX J M J' M') ∨
  (∃ fl pl I' J' M' T', cls = some (0, hk σ I' L) ∧ mdl = some (hk τ J' M') ∧ CFl I' fl pl ∧ CF3 la I I' ∧ MFl J' fl pl ∧ MX J M J' M' ∧ rTd J' T' ∧ ∀ j, j ≠ 7 → j < 150 → T' j = T j)
theorem sevl_ok (hla : isLa la) (hg : gpl σ = la) (hoff : off ≤ 480) (hkk : kk ≤ 6)
    (innE : ∀ h, h ≤ h0 + 5 → ∀ {I J M i T}, PE I J M X n m i la off W t1 t2 T (dp + 1) → ER σ τ I J L M X n m i la off W t1 t2 T (dp + 1) h ((mg_X2_readEither (N + 3)).1 282 (nI (dp + 1)) (hk σ I L)) ((mg_X12_both (N + 3)).2.1 433 (hk τ J M))) :
    ∀ k y, y + k = 6 → ∀ {I J M i T}, PE I J M X n m i la off W t1 t2 T (dp + 1) → SR σ τ I J L M X n m i la off W t1 t2 T dp (h0 + y) (h0 + 1) (mX2_readSeveral_l62 (mg_X2_readEither (N + 3)) 282 (nI dp) (nI kk) (nI (y + 1)) (hk σ I L)) (mX12_someOf_l51 (mg_X12_both (N + 3)) 433 (nI kk) (nI y) (1 : Int32) (hk τ J M)) := by
  intro k
  induction k with
  | zero =>
    intro y hy I J M i T h
    have : y = 6 := by omega
    subst this
    obtain ⟨f, f1, f5, e1, J1, e2, b1, g1⟩ := seventh_ok (σ := σ) (τ := τ) (L := L) h hla hg
    obtain ⟨I1, e3, c1, d1⟩ := fail_b2 (σ := σ) (L := L) h.1 f1 f5
    obtain ⟨J2, e4, g2⟩ := l51_bad (τ := τ) (M := M) (mg_X12_both (N + 3)) b1 (nI kk) (nI 6 + 1)
    refine Or.inr ⟨f, _, I1, J2, M, T, ?_, ?_, c1, d1.c3 hla, b1.bf g2, g1.x.tr g2.x, (h.2.2.2.2.1.mf g1).bf g2, fun _ _ _ => rfl⟩
    · unfold mX2_readSeveral_l62
      refine lp_inr ?_
      show mX2_readSeveral_l62f (mg_X2_readEither (N + 3)) 282 (nI dp) (nI kk) (nI (6 + 1)) (hk σ I L) = _
      unfold mX2_readSeveral_l62f
      rw [if_pos (by decide), e1, obind, e3, xts]
    · rw [← e4]
      unfold mX12_someOf_l51
      refine lp_inl ?_
      show mX12_someOf_l51f (mg_X12_both (N + 3)) 433 (nI kk) (nI 6) (1 : Int32) (hk τ J M) = _
      unfold mX12_someOf_l51f
      rw [if_neg (by decide), if_pos (show nI 6 = (6 : Int32) from rfl), e2, obind, someb65_bad b1]
  | succ k ih =>
    intro y hy I J M i T h
    have cI : ∀ {r : Int32 × Hp}, mX2_readSeveral_l62f (mg_X2_readEither (N + 3)) 282 (nI dp) (nI kk) (nI (y + 1)) (hk σ I L) = some (.inr r) → mX2_readSeveral_l62 (mg_X2_readEither (N + 3)) 282 (nI dp) (nI kk) (nI (y + 1)) (hk σ I L) = some r := fun e => by
      unfold mX2_readSeveral_l62
      exact lp_inr e
    have cL : ∀ {r : Int32 × Hp}, mX2_readSeveral_l62f (mg_X2_readEither (N + 3)) 282 (nI dp) (nI kk) (nI (y + 1)) (hk σ I L) = some (.inl r) → mX2_readSeveral_l62 (mg_X2_readEither (N + 3)) 282 (nI dp) (nI kk) (nI (y + 1)) (hk σ I L) = mX2_readSeveral_l62 (mg_X2_readEither (N + 3)) 282 (nI dp) (nI kk) r.1 r.2 := fun e => by
      unfold mX2_readSeveral_l62
      exact lp_inl e
    have mL : ∀ {a b : Int32} {r : Hp}, mX12_someOf_b65 (mg_X12_both (N + 3)) 433 (nI kk) (nI y) (hk τ J M) = some (.inl (a, b, r)) → mX12_someOf_l51 (mg_X12_both (N + 3)) 433 (nI kk) (nI y) (1 : Int32) (hk τ J M) = mX12_someOf_l51 (mg_X12_both (N + 3)) 433 (nI kk) a b r := fun {a b r} e => by
      unfold mX12_someOf_l51
      refine lp_inl (t := (a, b, r)) ?_
      show mX12_someOf_l51f (mg_X12_both (N + 3)) 433 (nI kk) (nI y) (1 : Int32) (hk τ J M) = _
      unfold mX12_someOf_l51f
      rw [if_neg (by decide), if_neg (show ¬ nI y = (6 : Int32) by rw [show (6 : Int32) = nI 6 from rfl, nI_eq' (by omega) (by omega)]; omega), e]
    have c6 : ¬ (6 : Int32) < nI (y + 1) := nI_nlt (a := 6) (by omega) (by omega)
    rcases innE (h0 + y) (by omega) h with ⟨I2, J2, M2, i2, T2, e1, e2, p2, l2, l3, a2, r2, f2, g2⟩ | ⟨fl, pl, I2, J2, M2, T2, e1, e2, p1, p2, p3, p4, p5, p6⟩
    · have hlt := ck_lt X n (pz X n i2)
      have ht7 := h.2.2.2.2.2.2.1
      have ht2 := p2.2.2.2.2.2.2.1
      have rge := r2.1.1
      by_cases q41 : ck X n (pz X n i2) = 41
      · rcases exp_ok (σ := σ) (τ := τ) (L := L) p2.1 p2.2.1 (c := 41) (by omega) (by omega) with ⟨_, _, J3, M3, y1, y2, y3⟩ | ⟨q, _⟩
        · rw [decide_eq_true q41] at y1
          have p3 : PE (rowUp I2 282 (updA (I2 282) 5 (nI (i2 + 1)))) J3 M3 X n m (i2 + 1) la off W t1 t2 T2 (dp + 1) := p2.nx hla (by omega) y2 y3
          have hi7 : T2 7 < i2 + 1 := by omega
          have ecc : cc (400 + (10 * kk + (y + 1))) = 16 + 8 * kk + (y + 1) := by
            unfold cc
            rw [if_neg (by omega), if_neg (by omega), if_pos (by omega), show (400 + (10 * kk + (y + 1))) / 10 % 10 = kk by omega, show (400 + (10 * kk + (y + 1))) % 10 = y + 1 by omega]
          obtain ⟨I4, r, c1, c2, p4, f4, g4⟩ := (p3.dep dp).em (σ := σ) (τ := τ) (L := L) hla hoff hi7 (a := 4) (b := 10 * kk + (y + 1)) (c := 400 + (10 * kk + (y + 1))) (by omega) (v := nI (16 + 8 * kk + (y + 1))) (by rw [ecc])
          have ho : hok (400 + (10 * kk + (y + 1))) (h0 + y + 1) = true ∧ hst (400 + (10 * kk + (y + 1))) (h0 + y + 1) = h0 + 1 := by
            unfold hok hst
            rw [if_neg (by omega), if_neg (by omega), if_pos (by omega), if_neg (by omega), if_neg (by omega), if_pos (by omega)]
            exact ⟨decide_eq_true ⟨by omega, by omega, by omega, by omega⟩, by omega⟩
          refine Or.inl ⟨I4, _, M3, i2 + 1, _, ?_, ?_, p4, by omega, by rw [sT_7]; omega, fun j j7 hj => by rw [sT_ne j7 (by omega), a2 j j7 hj], ?_, f2.tr ((CF2.up.c3 hla).tr f4), g2.tr (y3.x.tr ((MX.dep _).tr g4))⟩
          · refine cI ?_
            unfold mX2_readSeveral_l62f
            rw [if_neg c6, nI_1, e1, b2s, if_neg (show ¬ (1 : Int32) = 0 by decide), nextKind_ok p2.1, obind, q41, if_pos (show nI 41 = (41 : Int32) from rfl), gPI, obind, p2.1.2.2.2.2.2.1, sI_ok s282, obind, setI_hk, hpI_hk', nI_1, gDr, hg, show (16 : Int32) = nI 16 from rfl, show (8 : Int32) = nI 8 from rfl, pk_mul, nI_add, nI_add, c1, obind, xts]
          · have e : mX12_someOf_b65 (mg_X12_both (N + 3)) 433 (nI kk) (nI y) (hk τ J M) = some (.inl (nI y + 1, bI false, hk τ J2 M2)) := by
              unfold mX12_someOf_b65
              rw [e2, obind, show (44 : Int32) = nI 44 from rfl, isSign_ok p2.2.1.2.1 p2.2.1.2.2 (by decide), obind, decide_eq_false (show ¬ ck X n (pz X n i2) = 44 by omega), if_pos (show bI false = 0 from rfl)]
            rw [mL e]
            unfold mX12_someOf_l51
            refine lp_inr ?_
            show mX12_someOf_l51f (mg_X12_both (N + 3)) 433 (nI kk) (nI y + 1) (bI false) (hk τ J2 M2) = _
            unfold mX12_someOf_l51f
            rw [if_pos (show bI false = 0 from rfl), show (41 : Int32) = nI 41 from rfl, isSign_ok p2.2.1.2.1 p2.2.1.2.2 (by decide), obind, decide_eq_true q41, y1, obind, gMI, obind, p3.2.2.2.2.2.2.2, show (1 : Int32) = nI 1 from rfl, nI_sub (by omega), Nat.add_sub_cancel, dep_ok, obind, nI_add, show (10 : Int32) = nI 10 from rfl, pk_mul, nI_add]
            have c2 : mX12_step 433 (4 : Int32) (nI (10 * kk + (y + 1))) _ = _ := c2
            rw [c2, obind, xts]
          · rw [sT_7]
            have z1 : RG t1 (cT (sT T2 (400 + (10 * kk + (y + 1))))) (T 7) (T2 7) (h0 + y) (h0 + y + 1) := r2.cg (fun s _ h2 => sT_lo h2)
            have z2 : RG t1 (cT (sT T2 (400 + (10 * kk + (y + 1))))) (T2 7) (T2 7 + 1) (h0 + y + 1) (hst (cT (sT T2 (400 + (10 * kk + (y + 1)))) (T2 7)) (h0 + y + 1)) := RG.one (by rw [sT_at]; exact ho.1) (by rw [sT_at]; omega)
            rw [sT_at, ho.2] at z2
            exact z1.tr z2
        · exact absurd q41 q
      · have k41 : ¬ nI (ck X n (pz X n i2)) = (41 : Int32) := by rw [show (41 : Int32) = nI 41 from rfl, nI_eq' (by omega) (by omega)]; exact q41
        rcases exp_ok (σ := σ) (τ := τ) (L := L) p2.1 p2.2.1 (c := 44) (by omega) (by omega) with ⟨q44, ⟨I3, x1, x2, x3, x4⟩, _⟩ | ⟨q44, fl, pl, ⟨I3, x1, x2, x3⟩, J3, M3, y1, y2, y3⟩
        · obtain ⟨u, w, y1, y2, y3⟩ := PMk.nx (σ := τ) p2.2.1
          have x1 : mX2_expect 282 (44 : Int32) (hk σ I2 L) = some (1, hk σ I3 L) := x1
          have p3 : PE I3 (rowUp J2 433 u) (rowUp M2 433 w) X n m (i2 + 1) la off W t1 t2 T2 (dp + 1) := ⟨x2, y2, p2.2.2.1.cf hla x3, p2.2.2.2.1.mf y3, p2.2.2.2.2.1.mf y3, p2.2.2.2.2.2.1.cf hla x3, by omega, by rw [y3.2.2.2.1]; exact p2.2.2.2.2.2.2.2⟩
          have eC : mX2_readSeveral_l62 (mg_X2_readEither (N + 3)) 282 (nI dp) (nI kk) (nI (y + 1)) (hk σ I L) = mX2_readSeveral_l62 (mg_X2_readEither (N + 3)) 282 (nI dp) (nI kk) (nI (y + 1 + 1)) (hk σ I3 L) := by
            refine cL (r := (nI (y + 1 + 1), hk σ I3 L)) ?_
            unfold mX2_readSeveral_l62f
            rw [if_neg c6, nI_1, e1, b2s, if_neg (show ¬ (1 : Int32) = 0 by decide), nextKind_ok p2.1, obind, if_neg k41, x1, b2s, if_neg (show ¬ (1 : Int32) = 0 by decide), nI_1]
          have eM : mX12_someOf_b65 (mg_X12_both (N + 3)) 433 (nI kk) (nI y) (hk τ J M) = some (.inl (nI (y + 1), 1, hk τ (rowUp J2 433 u) (rowUp M2 433 w))) := by
            unfold mX12_someOf_b65
            rw [e2, obind, show (44 : Int32) = nI 44 from rfl, isSign_ok p2.2.1.2.1 p2.2.1.2.2 (by decide), obind, decide_eq_true q44, if_neg (show ¬ bI true = 0 by decide), y1, obind, nI_1]
            rfl
          rw [eC, mL eM]
          rcases ih (y + 1) (by omega) p3 with ⟨I4, J4, M4, i4, T4, d1, d2, p4, l4, l5, a4, r4, f4, g4⟩ | ⟨fl, pl, I4, J4, M4, T4, d1, d2, q1, q2, q3, q4, q5, q6⟩
          · exact Or.inl ⟨I4, J4, M4, i4, T4, d1, d2, p4, by omega, by omega, fun j j7 hj => by rw [a4 j j7 (by omega), a2 j j7 hj], (r2.cg (fun s h1 h2 => cT_eq a4 h2)).tr r4, f2.tr ((x3.c3 hla).tr f4), g2.tr (y3.x.tr g4)⟩
          · exact Or.inr ⟨fl, pl, I4, J4, M4, T4, d1, d2, q1, f2.tr ((x3.c3 hla).tr q2), q3, g2.tr (y3.x.tr q4), q5, fun j j7 hj => by rw [q6 j j7 hj, a2 j j7 (by omega)]⟩
        · rw [decide_eq_false q44] at y1
          have x1 : mX2_expect 282 (44 : Int32) (hk σ I2 L) = some (0, hk σ I3 L) := x1
          refine Or.inr ⟨fl, pl, I3, rowUp J3 433 (updA (J3 433) 16 (J3 433 16 - 1)), M3, T2, ?_, ?_, x2, f2.tr (x3.c3 hla), y2.bf (BF.up _), g2.tr (y3.x.tr (BF.up _).x), (p2.2.2.2.2.1.mf y3).bf (BF.up _), fun j j7 hj => a2 j j7 (by omega)⟩
          · refine cI ?_
            unfold mX2_readSeveral_l62f
            rw [if_neg c6, nI_1, e1, b2s, if_neg (show ¬ (1 : Int32) = 0 by decide), nextKind_ok p2.1, obind, if_neg k41, x1, b2s, if_pos rfl, xts]
          · have e : mX12_someOf_b65 (mg_X12_both (N + 3)) 433 (nI kk) (nI y) (hk τ J M) = some (.inl (nI y + 1, bI false, hk τ J2 M2)) := by
              unfold mX12_someOf_b65
              rw [e2, obind, show (44 : Int32) = nI 44 from rfl, isSign_ok p2.2.1.2.1 p2.2.1.2.2 (by decide), obind, decide_eq_false q44, if_pos (show bI false = 0 from rfl)]
            rw [mL e]
            unfold mX12_someOf_l51
            refine lp_inr ?_
            show mX12_someOf_l51f (mg_X12_both (N + 3)) 433 (nI kk) (nI y + 1) (bI false) (hk τ J2 M2) = _
            unfold mX12_someOf_l51f
            rw [if_pos (show bI false = 0 from rfl), show (41 : Int32) = nI 41 from rfl, isSign_ok p2.2.1.2.1 p2.2.1.2.2 (by decide), obind, decide_eq_false q41, y1, obind, gMI, obind, dep_ok, obind, step_bad (y2.bf (BF.up _)), obind, xts]
    · obtain ⟨J3, e4, g3⟩ := l51_bad (τ := τ) (M := M2) (mg_X12_both (N + 3)) p3 (nI kk) (nI y + 1)
      refine Or.inr ⟨fl, pl, I2, J3, M2, T2, ?_, ?_, p1, p2, p3.bf g3, p4.tr g3.x, p5.bf g3, p6⟩
      · refine cI ?_
        unfold mX2_readSeveral_l62f
        rw [if_neg c6, nI_1, e1, b2s, if_pos rfl, xts]
      · have e : mX12_someOf_b65 (mg_X12_both (N + 3)) 433 (nI kk) (nI y) (hk τ J M) = some (.inl (nI y + 1, 0, hk τ J2 M2)) := by
          unfold mX12_someOf_b65
          rw [e2, obind, isSign_bad p3.ne, obind, if_pos (show bI false = 0 from rfl)]
          rfl
        rw [mL e, e4]
end Several
