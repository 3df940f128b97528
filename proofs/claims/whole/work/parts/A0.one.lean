section One
variable {σ τ : Sg} {I I' J J' I1 I2 I3 Ja : Nat → Nat → Int32} {L L' M M' L1 L2 : Nat → Nat → Int64} {X : Nat → Nat} {n m i la off t1 t2 fl pl dp h0 N : Nat} {W : Nat → List Nat} {T T' : Nat → Nat}
theorem PMk.up16 (h : PMk J M X n i) (v : Int32) : PMk (rowUp J 433 (updA (J 433) 16 v)) M X n i := by
  have e : ∀ k, k ≠ 16 → (rowUp J 433 (updA (J 433) 16 v)) 433 k = J 433 k := fun k hk' => by rw [rowUp_same, updA_ne _ _ hk']
  exact ⟨⟨h.1.1, by rw [e 11 (by omega)]; exact h.1.2.1, fun j hj => by rw [rowUp_ne _ _ (by omega)]; exact h.1.2.2 j hj⟩, ⟨by rw [e 12 (by omega)]; exact h.2.1.1, by rw [e 13 (by omega)]; exact h.2.1.2.1, by rw [e 14 (by omega)]; exact h.2.1.2.2.1, by rw [e 15 (by omega)]; exact h.2.1.2.2.2.1, h.2.1.2.2.2.2⟩, by rw [e 17 (by omega)]; exact h.2.2⟩
theorem PE.dep (h : PE I J M X n m i la off W t1 t2 T dp) (d : Nat) : PE I (rowUp J 433 (updA (J 433) 16 (nI d))) M X n m i la off W t1 t2 T d := by
  have e : (rowUp J 433 (updA (J 433) 16 (nI d))) 435 = J 435 := rowUp_ne _ _ (by omega)
  refine ⟨h.1, h.2.1.up16 _, h.2.2.1, ?_, h.2.2.2.2.1.up, h.2.2.2.2.2.1, h.2.2.2.2.2.2.1, by rw [rowUp_same, updA_same]⟩
  unfold MN
  rw [e]
  exact h.2.2.2.1
theorem MX.dep (v : Int32) : MX J M (rowUp J 433 (updA (J 433) 16 v)) M := (BF.up v).x
/-- one deeper, or too deep -/
theorem opens_ok (h : PE I J M X n m i la off W t1 t2 T dp) (hla : isLa la) (hc : ck X n (pz X n i) = 33 ∨ ck X n (pz X n i) = 40) (hd : dp ≤ 5) :
    (dp < 5 ∧ ∃ J' M', mX12_opens 433 (hk τ J M) = some (hk τ J' M') ∧ PE (rowUp I 282 (updA (I 282) 5 (nI (i + 1)))) J' M' X n m (i + 1) la off W t1 t2 T (dp + 1) ∧ MX J M J' M') ∨
    (dp = 5 ∧ ∃ I' J', (b2 (mX2_fail 282 (4 : Int32) (hk σ I L)) fun v14 h15 => (z01 v14).bind fun v => some (v, h15)) = some (0, hk σ I' L) ∧ CFl I' 4 (pz X n i) ∧ CF3 la I I' ∧ mX12_opens 433 (hk τ J M) = some (hk τ J' M) ∧ MFl J' 4 (pz X n i) ∧ MX J M J' M ∧ rTd J' T) := by
  have h16 := h.2.2.2.2.2.2.2
  by_cases q : dp = 5
  · refine Or.inr ⟨q, ?_⟩
    obtain ⟨I', e, r, f⟩ := fail_b2 (σ := σ) (L := L) h.1 (f := 4) (by omega) (by omega)
    obtain ⟨u, e2, r1, r2⟩ := wrong_ok (σ := τ) h.2.1 (f := 4) (by omega) (by omega)
    have e2 : mX12_wrong 433 (4 : Int32) (hk τ J M) = some (hk τ (rowUp J 433 u) M) := e2
    rw [if_neg (by omega)] at r1
    refine ⟨I', _, e, r, f.c3 hla, ?_, r1.bf (BF.up _), r2.x.tr (MX.dep ((rowUp J 433 u) 433 16 + 1)), (h.2.2.2.2.1.mf r2).bf (BF.up _)⟩
    unfold mX12_opens mX12_opens_b13
    rw [if_pos s433, gMI, obind, h16, q, if_pos (show nI 5 = (5 : Int32) from rfl), e2, obind, gMI, obind, dep_ok, obind, passes_bad (r1.bf (BF.up _)), obind]
  · refine Or.inl ⟨by omega, ?_⟩
    have h1 := h.dep (dp + 1)
    obtain ⟨u, w, e, hp, f⟩ := PMk.ps (σ := τ) h1.2.1
    refine ⟨_, _, ?_, h1.nx hla (by omega) hp f, (MX.dep _).tr f.x⟩
    unfold mX12_opens mX12_opens_b13
    rw [if_pos s433, gMI, obind, h16, if_neg (show ¬ nI dp = (5 : Int32) by rw [show (5 : Int32) = nI 5 from rfl, nI_eq' (by omega) (by omega)]; exact q), obind, nI_1, dep_ok, obind, e, obind]
theorem mtk3 (X : Nat → Nat) (n b : Nat) : (mtk X n b = 3 ↔ ck X n b = 3) ∧ mtk X n b < 100 := by
  rcases tkc_all X n b with ⟨_, e1, e2⟩ | ⟨_, e1, e2⟩ | ⟨w', _, hw', e1, e2, e3⟩ | ⟨l, _, hl, e1, e2, e3, e4, e5⟩ | ⟨_, e1, e2, e3, e4⟩ | ⟨_, e1, e2, e3⟩
  · omega
  · omega
  · omega
  · omega
  · omega
  · have := mrk_c e1; omega
theorem ckd {c : Nat} (hc : c < 1000) {X : Nat → Nat} {n b : Nat} {α : Type} {A B : α} : (if nI (ck X n b) = nI c then A else B) = if ck X n b = c then A else B := c_eqd (by have := ck_lt X n b; omega) (by omega)
/-- one -/
theorem one_ok (hla : isLa la) (hg : gpl σ = la) (hoff : off ≤ 480) (hd : dp ≤ 5) (hh : h0 < 60) (hN : 3 ≤ N)
    (innE : dp < 5 → ∀ {I J M i T}, PE I J M X n m i la off W t1 t2 T (dp + 1) → ER σ τ I J L M X n m i la off W t1 t2 T (dp + 1) h0 ((mg_X2_readEither N).1 282 (nI (dp + 1)) (hk σ I L)) ((mg_X12_both N).2.1 433 (hk τ J M)))
    (innO : dp < 5 → ∀ {I J M i T}, PE I J M X n m i la off W t1 t2 T (dp + 1) → ER σ τ I J L M X n m i la off W t1 t2 T (dp + 1) h0 ((mg_X2_readEither N).2.2.1 282 (nI (dp + 1)) (hk σ I L)) ((mg_X12_both N).2.2.1 433 (hk τ J M)))
    {I J : Nat → Nat → Int32} {M : Nat → Nat → Int64} {i : Nat} {T : Nat → Nat}
    (innS : PE I J M X n m i la off W t1 t2 T dp → ck X n (pz X n i) = 3 → ER σ τ I J L M X n m i la off W t1 t2 T dp h0 ((mg_X2_readEither N).2.2.2 282 (nI dp) (hk σ I L)) ((mg_X12_both N).2.2.2 433 (hk τ J M)))
    (h : PE I J M X n m i la off W t1 t2 T dp) : ER σ τ I J L M X n m i la off W t1 t2 T dp h0 ((mg_X2_readEither (N + 1)).2.2.1 282 (nI dp) (hk σ I L)) ((mg_X12_both (N + 1)).2.2.1 433 (hk τ J M)) := by
  show ER σ τ I J L M X n m i la off W t1 t2 T dp h0 (mX2_readOne_F (mg_X2_readEither N) 282 (nI dp) (hk σ I L)) (mX12_one_F (mg_X12_both N) 433 (hk τ J M))
  have hlt := ck_lt X n (pz X n i)
  have hle := h.1.le
  have ht7 := h.2.2.2.2.2.2.1
  obtain ⟨k3, k100⟩ := mtk3 X n (pz X n i)
  obtain ⟨N', rfl⟩ : ∃ N', N = N' + 3 := ⟨N - 3, by omega⟩
  unfold mX2_readOne_F mX12_one_F
  rw [if_pos s282, if_pos s433, nextKind_ok h.1, obind, gMI, obind, if_pos h.2.1.2.2, show (33 : Int32) = nI 33 from rfl, show (40 : Int32) = nI 40 from rfl, show (3 : Int32) = nI 3 from rfl, ckd (by omega), ckd (by omega), ckd (by omega), isSign_ok h.2.1.2.1 h.2.1.2.2 (by decide), obind, isSign_ok h.2.1.2.1 h.2.1.2.2 (by decide), obind, gMI, obind, h.2.1.2.1.2.2.1, c_eqd (by omega) (by omega)]
  by_cases q33 : ck X n (pz X n i) = 33
  · rw [if_neg (show ¬ ck X n (pz X n i) = 3 by omega), if_pos q33, if_neg (show ¬ bI (decide (ck X n (pz X n i) = 33)) = 0 by rw [decide_eq_true q33]; decide)]
    unfold mX2_readOne_b50
    rcases opens_ok (σ := σ) (τ := τ) (L := L) h hla (Or.inl q33) hd with ⟨hd5, J1, M1, e1, p1, g1⟩ | ⟨hd5, I1, J1, e0, c1, f1, e1, b1, g1, r1⟩
    · rw [if_pos (show nI dp < (5 : Int32) from nI_lt (b := 5) hd5 (by omega)), gPI, obind, h.1.2.2.2.2.2.1, sI_ok s282, obind, setI_hk, hpI_hk', nI_1, nI_1, show (40 : Int32) = nI 40 from rfl, ckd (by omega), if_neg (show ¬ ck X n (pz X n i) = 40 by omega), e1, obind]
      rcases innO hd5 p1 with ⟨I2, J2, M2, i2, T2, d1, d2, p2, l2, l3, a2, r2, f2, g2⟩ | ⟨fl, pl, I2, J2, M2, T2, d1, d2, c2, f2, b2', g2, r2, a2⟩
      · obtain ⟨I3, r, c1, c2, p3, f3, g3⟩ := (p2.dep dp).em (σ := σ) (τ := τ) (L := L) hla hoff (by omega) (a := 1) (b := 0) (c := 100) rfl (v := 8) rfl
        have c2 : mX12_step 433 (1 : Int32) (0 : Int32) _ = _ := c2
        have rge := r2.1.1
        refine Or.inl ⟨I3, _, M2, i2, sT T2 100, ?_, ?_, p3, by omega, by rw [sT_7]; omega, fun j j7 hj => by rw [sT_ne j7 (by omega), a2 j j7 hj], ?_, (CF2.up.c3 hla).tr (f2.tr f3), g1.tr (g2.tr ((MX.dep _).tr g3))⟩
        · rw [d1, b2s, if_neg (by decide), gDr, hg, c1, obind]
        · rw [d2, obind, gMI, obind, p2.2.2.2.2.2.2.2, show (1 : Int32) = nI 1 from rfl, nI_sub (by omega), Nat.add_sub_cancel, dep_ok, obind]
          have c2 : mX12_step 433 (nI 1) (0 : Int32) _ = _ := c2
          rw [c2, obind]
        · rw [sT_7]
          have z1 : RG t1 (cT (sT T2 100)) (T 7) (T2 7) h0 (h0 + 1) := r2.cg (fun s _ h2 => sT_lo h2)
          have z2 : RG t1 (cT (sT T2 100)) (T2 7) (T2 7 + 1) (h0 + 1) (hst (cT (sT T2 100) (T2 7)) (h0 + 1)) := RG.one (by rw [sT_at]; unfold hok; simp) (by rw [sT_at]; omega)
          rw [sT_at] at z2
          exact z1.tr z2
      · refine Or.inr ⟨fl, pl, I2, _, M2, T2, ?_, ?_, c2, (CF2.up.c3 hla).tr f2, b2'.bf (BF.up (J2 433 16 - 1)), g1.tr (g2.tr (BF.up _).x), r2.bf (BF.up _), a2⟩
        · rw [d1, b2s, if_pos rfl]
        · rw [d2, obind, gMI, obind, dep_ok, obind, step_bad (b2'.bf (BF.up _)), obind]
    · rw [if_neg (show ¬ nI dp < (5 : Int32) by rw [hd5]; decide), e0, e1, obind]
      have e2 := gone_bad (τ := τ) (M := M) b1 (N' + 2)
      refine Or.inr ⟨4, _, I1, _, M, T, rfl, ?_, c1, f1, b1.bf (BF.up (J1 433 16 - 1)), g1.tr (BF.up _).x, r1.bf (BF.up _), fun _ _ _ => rfl⟩
      rw [e2, obind, gMI, obind, dep_ok, obind, step_bad (b1.bf (BF.up _)), obind]
  · rw [if_neg q33, if_pos (show bI (decide (ck X n (pz X n i) = 33)) = 0 by rw [decide_eq_false q33]; rfl)]
    by_cases q40 : ck X n (pz X n i) = 40
    · rw [if_neg (show ¬ ck X n (pz X n i) = 3 by omega), if_pos q40, if_neg (show ¬ bI (decide (ck X n (pz X n i) = 40)) = 0 by rw [decide_eq_true q40]; decide)]
      unfold mX2_readOne_b50
      rcases opens_ok (σ := σ) (τ := τ) (L := L) h hla (Or.inr q40) hd with ⟨hd5, J1, M1, e1, p1, g1⟩ | ⟨hd5, I1, J1, e0, c1, f1, e1, b1, g1, r1⟩
      · rw [if_pos (show nI dp < (5 : Int32) from nI_lt (b := 5) hd5 (by omega)), gPI, obind, h.1.2.2.2.2.2.1, sI_ok s282, obind, setI_hk, hpI_hk', nI_1, nI_1, show (40 : Int32) = nI 40 from rfl, ckd (by omega), if_pos q40, e1, obind]
        rcases innE hd5 p1 with ⟨I2, J2, M2, i2, T2, d1, d2, p2, l2, l3, a2, r2, f2, g2⟩ | ⟨fl, pl, I2, J2, M2, T2, d1, d2, c2, f2, b2', g2, r2, a2⟩
        · rw [d1, b2s, if_neg (show ¬ (1 : Int32) = 0 by decide), d2, obind, show (41 : Int32) = nI 41 from rfl, isSign_ok p2.2.1.2.1 p2.2.1.2.2 (by decide), obind]
          rcases exp_ok (σ := σ) (τ := τ) (L := L) p2.1 p2.2.1 (c := 41) (by omega) (by omega) with ⟨q, ⟨I3, x1, x2, x3, x4⟩, J3, M3, y1, y2, y3⟩ | ⟨q, fl, pl, ⟨I3, x1, x2, x3⟩, J3, M3, y1, y2, y3⟩
          · rw [x1, b2s, if_neg (show ¬ (1 : Int32) = 0 by decide), y1, obind, gMI, obind]
            have p3 : PE I3 J3 M3 X n m (i2 + 1) la off W t1 t2 T2 (dp + 1) := ⟨x2, y2, p2.2.2.1.cf hla x3, p2.2.2.2.1.mf y3, p2.2.2.2.2.1.mf y3, p2.2.2.2.2.2.1.cf hla x3, by have := p2.2.2.2.2.2.2.1; omega, by rw [y3.2.2.2.1]; exact p2.2.2.2.2.2.2.2⟩
            refine Or.inl ⟨I3, _, M3, i2 + 1, T2, rfl, ?_, p3.dep dp, by omega, by omega, a2, r2, (CF2.up.c3 hla).tr (f2.tr (x3.c3 hla)), g1.tr (g2.tr (y3.x.tr (MX.dep _)))⟩
            rw [p3.2.2.2.2.2.2.2, show (1 : Int32) = nI 1 from rfl, nI_sub (by omega), Nat.add_sub_cancel, dep_ok, obind]
          · rw [x1, b2s, if_pos rfl, y1, obind, gMI, obind]
            refine Or.inr ⟨fl, pl, I3, _, M3, T2, rfl, ?_, x2, (CF2.up.c3 hla).tr (f2.tr (x3.c3 hla)), y2.bf (BF.up (J3 433 16 - 1)), g1.tr (g2.tr (y3.x.tr (BF.up _).x)), (p2.2.2.2.2.1.mf y3).bf (BF.up _), fun j j7 hj => a2 j j7 (by omega)⟩
            rw [dep_ok, obind]
        · refine Or.inr ⟨fl, pl, I2, _, M2, T2, ?_, ?_, c2, (CF2.up.c3 hla).tr f2, b2'.bf (BF.up (J2 433 16 - 1)), g1.tr (g2.tr (BF.up _).x), r2.bf (BF.up _), a2⟩
          · rw [d1, b2s, if_pos rfl]
          · rw [d2, obind, isSign_bad b2'.ne, obind, must_bad b2', obind, gMI, obind, dep_ok, obind]
      · rw [if_neg (show ¬ nI dp < (5 : Int32) by rw [hd5]; decide), e0, e1, obind]
        refine Or.inr ⟨4, _, I1, _, M, T, rfl, ?_, c1, f1, b1.bf (BF.up (J1 433 16 - 1)), g1.tr (BF.up _).x, r1.bf (BF.up _), fun _ _ _ => rfl⟩
        rw [geither_bad b1, obind, isSign_bad b1.ne, obind, must_bad b1, obind, gMI, obind, dep_ok, obind]
    · rw [if_neg q40, if_pos (show bI (decide (ck X n (pz X n i) = 40)) = 0 by rw [decide_eq_false q40]; rfl)]
      by_cases q3 : ck X n (pz X n i) = 3
      · rw [if_pos q3, if_pos (k3.mpr q3)]
        rcases innS h q3 with ⟨I2, J2, M2, i2, T2, d1, d2, p2, l2, l3, a2, r2, f2, g2⟩ | ⟨fl, pl, I2, J2, M2, T2, d1, d2, c2, f2, b2', g2, r2, a2⟩
        · exact Or.inl ⟨I2, J2, M2, i2, T2, by rw [d1, b2s]; rfl, by rw [d2, obind], p2, l2, l3, a2, r2, f2, g2⟩
        · exact Or.inr ⟨fl, pl, I2, J2, M2, T2, by rw [d1, b2s]; rfl, by rw [d2, obind], c2, f2, b2', g2, r2, a2⟩
      · rw [if_neg q3, if_neg (fun z => q3 (k3.mp z))]
        rcases fact_ok (σ := σ) (τ := τ) (L := L) h.1 h.2.1 (by rw [hg]; exact hla) (by rw [hg]; exact h.2.2.1) h.2.2.2.1 with ⟨f, hf, _, ⟨I2, x1, x2, x3, x4⟩, y⟩ | ⟨fl, ⟨I2, x1, x2, x3⟩, J2, y1, y2, y3⟩
        · obtain ⟨J2, M2, y1, y2, y3⟩ := known_of (τ := τ) h.2.1 y
          have h8 := h.2.2.1.1
          have p2 : PE I2 J2 M2 X n m (i + 1) la off W t1 t2 T dp := ⟨x2, y2, h.2.2.1.cf hla x3, h.2.2.2.1.mf y3, h.2.2.2.2.1.mf y3, h.2.2.2.2.2.1.cf hla x3, by omega, by rw [y3.2.2.2.1]; exact h.2.2.2.2.2.2.2⟩
          obtain ⟨I3, r, c1, c2, p3, f3, g3⟩ := p2.em (σ := σ) (τ := τ) (L := L) hla hoff (by omega) (a := 0) (b := f) (c := f) (by omega) (v := nI f) (by unfold cc; rw [if_pos (by omega), Nat.mod_eq_of_lt (by omega)])
          have c2 : mX12_step 433 (0 : Int32) (nI f) (hk τ J2 M2) = some (hk τ (rowUp J2 435 r) M2) := c2
          have o : hok f h0 = true ∧ hst f h0 = h0 + 1 := by
            have d0 : f / 100 = 0 := by omega
            have d1 : f % 100 = f := by omega
            exact ⟨by unfold hok; rw [if_pos d0, d1]; exact decide_eq_true ⟨by omega, hh⟩, by unfold hst; rw [if_pos d0]⟩
          refine Or.inl ⟨I3, _, M2, i + 1, sT T f, ?_, ?_, p3, by omega, by rw [sT_7]; omega, fun j j7 hj => sT_ne j7 (by omega), ?_, (x3.c3 hla).tr f3, y3.x.tr g3⟩
          · rw [x1, b2s, if_neg (show ¬ (1 : Int32) = 0 by decide), gDr, hg, gPI, obind, x4, c1, obind]
          · rw [y1, b2s, c2, obind]
          · have z2 : RG t1 (cT (sT T f)) (T 7) (T 7 + 1) h0 (hst (cT (sT T f) (T 7)) h0) := RG.one (by rw [sT_at]; exact o.1) (by rw [sT_at]; omega)
            rw [sT_at, o.2] at z2
            rw [sT_7]
            exact z2
        · refine Or.inr ⟨fl, _, I2, J2, M, T, ?_, ?_, x2, x3.c3 hla, y2, y3.x, h.2.2.2.2.1.mf y3, fun _ _ _ => rfl⟩
          · rw [x1, b2s, if_pos rfl]
          · rw [known_no y2 y1, b2s, step_bad y2, obind]
end One
