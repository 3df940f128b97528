section JH
variable {σ σ' : Sg} {I I' I1 I2 : Nat → Nat → Int32} {L L' L1 L2 : Nat → Nat → Int64} {T N M : Nat → Nat} {a n k f how so u : Nat} {P : Nat → Nat → Nat} {K : Nat → Bool} {Q : Nat → Nat → Nat} {b : Bool}
theorem fW_pos (hW : WT T) (h : sme T N f b = true) : 0 < fW T N f b := by
  obtain ⟨w, hw, e⟩ := anyB_iff.mp h
  exact sm_pos (p := fun w => lft T N w && (w.testBit f == b)) hw e (by have := (wg_b hW w).1; omega)
theorem nW_pos (h : sme T N f b = true) : 0 < nW T N f b := by
  have : cntB (fun w => lft T N w && (w.testBit f == b)) 256 ≠ 0 := fun z => by
    have := cntB_0.mp z
    have h : anyB (fun w => lft T N w && (w.testBit f == b)) 256 = true := h
    rw [h] at this; cases this
  unfold nW
  omega
/-- in lowest terms: so, of all -/
theorem low_f (hW : WT T) (hN : WN T N) : ∃ g t b, 0 < g ∧ g = Nat.gcd (aW T N) (fW T N f true) ∧ t = fW T N f true / g ∧ b = aW T N / g ∧ fW T N f true = t * g ∧ aW T N = b * g ∧ fW T N f false = (b - t) * g ∧ t ≤ b ∧ 0 < b ∧ b ≤ 100000000 := by
  have w0 : 0 < aW T N := all_pos hW hN
  have w8 := aW_b (N := N) hW
  have hg : 0 < Nat.gcd (aW T N) (fW T N f true) := Nat.gcd_pos_of_pos_left _ w0
  have e1 := Nat.div_mul_cancel (Nat.gcd_dvd_right (aW T N) (fW T N f true))
  have e2 := Nat.div_mul_cancel (Nat.gcd_dvd_left (aW T N) (fW T N f true))
  have s := fW_sum (T := T) (N := N) (f := f)
  have le : fW T N f true ≤ aW T N := by omega
  have tb := Nat.div_le_div_right (c := Nat.gcd (aW T N) (fW T N f true)) le
  refine ⟨_, _, _, hg, rfl, rfl, rfl, e1.symm, e2.symm, ?_, tb, ?_, Nat.le_trans (Nat.div_le_self _ _) w8⟩
  · rw [Nat.sub_mul, e1, e2]; omega
  · exact Nat.div_pos (Nat.le_of_dvd w0 (Nat.gcd_dvd_left _ _)) hg
theorem w_step {t bb g S C1 k0 : Nat} {x5 x3 : UInt64} {x8 : Int32} (r : RB σ I L T N a P K Q n) (hk' : k < N 18) (hf : f < T 1) (hkn : kn N f = false) (hs : so < 2) (hg : 0 < g) (e1 : fW T N f true = t * g) (e2 : aW T N = bb * g) (e3 : fW T N f false = (bb - t) * g) (htb : t ≤ bb) (hb0 : 0 < bb) (hb8 : bb ≤ 100000000) (hr : Rr x5 S (aW T N) k0) (hk0 : k0 ≤ 100) (hS : S + kW T N f k (decide (so = 1)) ≤ aW T N) (hC : C1 + nW T N f (decide (so = 1)) ≤ 256) :
    ∃ x I1 L1, mL_weighed_l95f 99 (nI k) (nI f) x3 x8 (lN t) (lN bb) x5 (nI (C1 + nW T N f (decide (so = 1)))) (nI so) (hk σ I L) = some (.inl (x, nI C1, nI (so + 1), hk σ I1 L1)) ∧ FrL I L I1 L1 ∧ RN σ I1 L1 T N K Q n ∧ Rr x (S + kW T N f k (decide (so = 1))) (aW T N) (k0 + 8) := by
  obtain ⟨w1, w18, w16, n16, hW, hE⟩ := r.b
  have w8 := aW_b (N := N) hW
  have w0 : 0 < aW T N := all_pos hW hE.1
  obtain ⟨pt, hpt⟩ : ∃ pt, pt = if so = 1 then t else bb - t := ⟨_, rfl⟩
  have ptg : pt * g = fW T N f (decide (so = 1)) := by
    rw [hpt]
    rcases (show so = 0 ∨ so = 1 by omega) with rfl | rfl
    · rw [if_neg (by omega)]; exact e3.symm
    · rw [if_pos rfl]; exact e1.symm
  have ptb : pt ≤ bb := by rw [hpt]; split <;> omega
  obtain ⟨I1, L1, c1, r1, f1⟩ := r.cnt (show 7 < 8 by omega)
  have c1 : mX11_count 100 (7 : Int32) (hk σ I L) = some (nI a, hk σ I1 L1) := c1
  have pre : mL_weighed_l95f 99 (nI k) (nI f) x3 x8 (lN t) (lN bb) x5 (nI (C1 + nW T N f (decide (so = 1)))) (nI so) (hk σ I L) = mL_weighed_b128 99 (nI k) (nI f) x3 x5 (nI (C1 + nW T N f (decide (so = 1)))) x8 (lN t) (lN bb) (nI so) (nI a) (lN pt) (hk σ I1 L1) := by
    unfold mL_weighed_l95f
    rw [if_pos (show nI so < (2 : Int32) from nI_lt (b := 2) hs (by omega)), gX r.1, c1, b2s, hpt]
    rcases (show so = 0 ∨ so = 1 by omega) with rfl | rfl
    · rw [if_neg (show ¬ nI 0 = (1 : Int32) by decide), if_neg (by omega), lN_sb htb (by omega)]
    · rw [if_pos (show nI 1 = (1 : Int32) from rfl), if_pos rfl]
  obtain ⟨v, I2, L2, c2, f2, q⟩ := l_makes r1 hf hs hkn
  rcases q with ⟨rfl, r2, sm0⟩ | ⟨rfl, how, hh, sm1, r2⟩
  · have z := fW_0 sm0
    have pt0 : pt = 0 := by
      rw [z] at ptg
      rcases Nat.mul_eq_zero.mp ptg with q | q
      · exact q
      · omega
    obtain ⟨I3, L3, c3, r3, f3⟩ := r2.cnt (show 7 < 8 by omega)
    have c3 : mX11_count 100 (7 : Int32) (hk σ I2 L2) = some (nI a, hk σ I3 L3) := c3
    refine ⟨x5, I3, L3, ?_, (f1.tr f2).tr f3, r3.rn, ?_⟩
    · rw [pre]
      unfold mL_weighed_b128 mL_weighed_b229
      rw [c2, b2s, if_pos rfl, if_pos (by rw [lN_0 (by omega)]; exact pt0), gX r2.1, c3, b2s, if_pos rfl, nW_0 sm0, Nat.add_zero, nI_1]
    · rw [kW_0 sm0, Nat.add_zero]
      exact hr.mono (by omega)
  · have zp := fW_pos hW sm1
    have pt0 : 0 < pt := by
      cases pt with
      | zero => rw [Nat.zero_mul] at ptg; omega
      | succ x => omega
    have hM : WT T ∧ WN T (mkn N f how so) := ⟨hW, r2.2.1.2.1.1⟩
    have h18 : k < mkn N f how so 18 := by
      unfold mkn
      rw [updA_ne _ _ (by omega), updA_ne _ _ (by omega)]; exact hk'
    obtain ⟨I3, L3, c3, r3, f3⟩ := r2.chance h18 (j := 0) (by omega)
    obtain ⟨I4, L4, c4, r4, f4⟩ := r3.chance h18 (j := 1) (by omega)
    rw [if_pos rfl] at c3
    rw [if_neg (by omega)] at c4
    have c3 : mX11_chance 100 (nI k) (0 : Int32) (hk σ I2 L2) = some (nI (ch0 T (mkn N f how so) k), hk σ I3 L3) := c3
    have c4 : mX11_chance 100 (nI k) (1 : Int32) (hk σ I3 L3) = some (nI (ch1 T (mkn N f how so) k), hk σ I4 L4) := c4
    obtain ⟨I5, L5, c5, r5, f5⟩ := r4.que (c_worlds1 r4.2.1.1 |>.elim fun L' z => ⟨I4, L', z⟩)
    have c5 : mX11_worlds 100 (1 : Int32) (hk σ I4 L4) = some (nI (cntB (lft T (mkn N f how so)) 256), hk σ I5 L5) := c5
    obtain ⟨I6, c6, f6, r6⟩ := l_taken1 r5 w16
    have c6 : mL_taken 99 (1 : Int32) (hk σ I5 L5) = some (1, hk σ I6 L5) := c6
    obtain ⟨d1, d2, d3, d4, d5, d6⟩ := ch_b (k := k) hM.1 hM.2
    obtain ⟨gg, hgg⟩ : ∃ gg, gg = Nat.gcd (aW T (mkn N f how so)) (pW T (mkn N f how so) k) := ⟨_, rfl⟩
    rw [← hgg] at d4 d5
    rw [pW_mk (by omega) hh hkn] at d4
    rw [aW_mk (by omega) hh hkn] at d5
    obtain ⟨v41, v45, v49, t1, t2, t3, t4⟩ := term_ok (t := pt) (b := bb) (c := ch0 T (mkn N f how so) k) (d := ch1 T (mkn N f how so) k) (X := kW T N f k (decide (so = 1))) (W := aW T N) hb0 d3 ptb hb8 d1 d2 w0 (by
      rw [e2, d4]
      have x1 : pt * ch0 T (mkn N f how so) k * (bb * g) = (pt * g) * (ch0 T (mkn N f how so) k * bb) := by ac_rfl
      rw [x1, ptg, d5]
      ac_rfl)
    obtain ⟨v50, t5, t6⟩ := plus_ok hr t4 hk0 hS w8
    refine ⟨v50, I6, L5, ?_, ((((f1.tr f2).tr f3).tr f4).tr f5).tr f6, r6.rn, t6⟩
    rw [pre]
    unfold mL_weighed_b128 mL_weighed_b229
    rw [c2, b2s, if_neg (show ¬ (1 : Int32) = 0 by decide), if_pos (by rw [lN_gt (by omega)]; exact pt0), t1, obind, gX r2.1, c3, b2s, t2, obind, gX r3.1, c4, b2s, t3, obind, t5, obind, gX r4.1, c5, b2s, c6, b2s, if_neg (show ¬ (1 : Int32) = 0 by decide), nW_mk (by omega) hh hkn, nI_sub (by omega), Nat.add_sub_cancel, nI_1]
theorem l95_ok {t bb g : Nat} {x3 : UInt64} (r : RB σ I L T N a P K Q n) (hk' : k < N 18) (hf : f < T 1) (hkn : kn N f = false) (hg : 0 < g) (e1 : fW T N f true = t * g) (e2 : aW T N = bb * g) (e3 : fW T N f false = (bb - t) * g) (htb : t ≤ bb) (hb0 : 0 < bb) (hb8 : bb ≤ 100000000) (h3 : Rr x3 (pW T N k) (aW T N) 2) :
    ∃ I1 L1, mL_weighed_l95 99 (nI k) (nI f) x3 (0 : UInt64) (nI (cntB (lft T N) 256)) (how3 (lft T N) (fun w => w.testBit f)) (lN t) (lN bb) (0 : Int32) (hk σ I L) = some (1, hk σ I1 L1) ∧ FrL I L I1 L1 ∧ RN σ I1 L1 T N K Q n := by
  obtain ⟨w1, w18, w16, n16, hW, hE⟩ := r.b
  have w0 : 0 < aW T N := all_pos hW hE.1
  have ks := kW_sum (T := T) (N := N) (f := f) (k := k)
  have ns := nW_sum (T := T) (N := N) (f := f)
  have pl := pW_le (T := T) (N := N) (k := k)
  have cl := cntB_le (lft T N) 256
  unfold mL_weighed_l95
  rw [ns]
  obtain ⟨xa, I1, L1, s1, g1, ⟨a1, P1, n1, hn1, r1⟩, q1⟩ := w_step (so := 0) (x5 := 0) (S := 0) (C1 := nW T N f true) (k0 := 0) (x3 := x3) (x8 := how3 (lft T N) (fun w => w.testBit f)) r hk' hf hkn (by omega) hg e1 e2 e3 htb hb0 hb8 (rr_0 w0) (by omega) (by show 0 + kW T N f k false ≤ _; omega) (by show nW T N f true + nW T N f false ≤ _; omega)
  obtain ⟨xb, I2, L2, s2, g2, ⟨a2, P2, n2, hn2, r2⟩, q2⟩ := w_step (so := 1) (x5 := xa) (S := 0 + kW T N f k false) (C1 := 0) (k0 := 0 + 8) (x3 := x3) (x8 := how3 (lft T N) (fun w => w.testBit f)) r1 hk' hf hkn (by omega) hg e1 e2 e3 htb hb0 hb8 q1 (by omega) (by show 0 + kW T N f k false + kW T N f k true ≤ _; omega) (by show 0 + nW T N f true ≤ _; omega)
  have q2 : Rr xb (pW T N k) (aW T N) 16 := by
    have e : 0 + kW T N f k false + kW T N f k true = pW T N k := by omega
    rw [← e]; exact q2
  obtain ⟨vv, ww, z1, z2, z3⟩ := close_ok q2 h3 pl (by omega)
  have s1 : mL_weighed_l95f 99 (nI k) (nI f) x3 (how3 (lft T N) (fun w => w.testBit f)) (lN t) (lN bb) 0 (nI (nW T N f true + nW T N f false)) (0 : Int32) (hk σ I L) = some (.inl (xa, nI (nW T N f true), nI 1, hk σ I1 L1)) := s1
  have s2 : mL_weighed_l95f 99 (nI k) (nI f) x3 (how3 (lft T N) (fun w => w.testBit f)) (lN t) (lN bb) xa (nI (nW T N f true)) (nI 1) (hk σ I1 L1) = some (.inl (xb, nI 0, nI 2, hk σ I2 L2)) := by
    have e : 0 + nW T N f (decide ((1 : Nat) = 1)) = nW T N f true := Nat.zero_add _
    rw [e] at s2; exact s2
  have fin : ∀ t1, how3 (lft T N) (fun w => w.testBit f) = t1 → mL_weighed_b261 x3 xb (nI 0) (how3 (lft T N) (fun w => w.testBit f)) t1 (hk σ I2 L2) = some (1, hk σ I2 L2) := fun t1 ht => by
    unfold mL_weighed_b261
    rw [if_pos ht, if_pos (show nI 0 = (0 : Int32) from rfl), z1, obind, z2, obind, z3, if_pos (by decide)]
  have hne : anyB (lft T N) 256 = true := by
    obtain ⟨w, hw, hl⟩ := hE.1.2.2.2.2.2
    exact anyB_iff.mpr ⟨w, hw, hl⟩
  have nT : cntB (fun w => lft T N w && w.testBit f) 256 = nW T N f true := by
    unfold nW
    rw [cnt_sm, cnt_sm]
    exact sm_same fun w _ => ⟨by cases lft T N w <;> cases w.testBit f <;> rfl, fun _ => rfl⟩
  have hm := how3_m (g := fun w => w.testBit f) hne
  rw [nT, ns] at hm
  have s3 : mL_weighed_l95f 99 (nI k) (nI f) x3 (how3 (lft T N) (fun w => w.testBit f)) (lN t) (lN bb) xb (nI 0) (nI 2) (hk σ I2 L2) = some (.inr (1, hk σ I2 L2)) := by
    unfold mL_weighed_l95f
    rw [if_neg (show ¬ nI 2 < (2 : Int32) by decide)]
    by_cases t0 : t = 0
    · have n0 : nW T N f true = 0 := by
        cases z : sme T N f true
        · exact nW_0 z
        · have := fW_pos hW z
          rw [e1, t0, Nat.zero_mul] at this; omega
      rw [if_pos (by rw [lN_0 (by omega)]; exact t0), fin 0 (by rw [hm, if_pos n0]), xts]
    · have n0 : nW T N f true ≠ 0 := by
        cases z : sme T N f true
        · have := fW_0 z
          rw [e1] at this
          rcases Nat.mul_eq_zero.mp this with q | q <;> omega
        · have := nW_pos z; omega
      rw [if_neg (by rw [lN_0 (by omega)]; exact t0)]
      by_cases tb : t = bb
      · have n1 : nW T N f false = 0 := by
          cases z : sme T N f false
          · exact nW_0 z
          · have := fW_pos hW z
            rw [e3, tb, Nat.sub_self, Nat.zero_mul] at this; omega
        rw [if_pos (by rw [lg_cmp0, tb]), fin 1 (by rw [hm, if_neg n0, if_pos (by omega)]), xts]
      · have n1 : nW T N f false ≠ 0 := by
          cases z : sme T N f false
          · have := fW_0 z
            rw [e3] at this
            rcases Nat.mul_eq_zero.mp this with q | q <;> omega
          · have := nW_pos z; omega
        rw [if_neg (by rw [lg_cmp0]; exact fun q => tb ((lN_eq' (by omega) (by omega)).mp q)), fin 2 (by rw [hm, if_neg n0, if_neg (by omega)]), xts]
  refine ⟨I2, L2, ?_, g1.tr g2, ⟨a2, P2, n2, by omega, r2⟩⟩
  rw [lp_inl s1, lp_inl s2]
  exact lp_inr s3
end JH
