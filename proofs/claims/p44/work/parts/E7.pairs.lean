section E7
variable {σ σ' : Sg} {I I' I1 I2 : Nat → Nat → Int32} {L L' L1 L2 : Nat → Nat → Int64} {T N M : Nat → Nat} {u F n a b : Nat} {P : Nat → Nat → Nat} {K : Nat → Bool} {Q : Nat → Nat → Nat}
theorem RB.clash (h : RB σ I L T N u P K Q n) (ha : a < N 18) (hb : b < N 18) : ∃ I1 L1, mX11_clash 100 (nI a) (nI b) (hk σ I L) = some (bI (clsh T N a b), hk σ I1 L1) ∧ RB σ I1 L1 T N u P K Q n ∧ FrL I L I1 L1 := by
  obtain ⟨L1, e, f⟩ := c_clash h.2.1.1 ha hb
  exact h.que ⟨I, L1, e, f⟩
theorem RB.implied (h : RB σ I L T N u P K Q n) (ha : a < N 18) (hb : b < N 18) : ∃ I1 L1, mX11_implied 100 (nI a) (nI b) (hk σ I L) = some (bI (impl T N a b), hk σ I1 L1) ∧ RB σ I1 L1 T N u P K Q n ∧ FrL I L I1 L1 := by
  obtain ⟨L1, e, f⟩ := c_implied h.2.1.1 ha hb
  exact h.que ⟨I, L1, e, f⟩
theorem RB.together (h : RB σ I L T N u P K Q n) {X : Nat} (hX : X < 2 ^ N 18) : ∃ I1 L1, mX11_together 100 (nI X) (hk σ I L) = some (bI (anyB (tg T N X (N 18)) 256), hk σ I1 L1) ∧ RB σ I1 L1 T N u P K Q n ∧ FrL I L I1 L1 := by
  obtain ⟨L1, e, f⟩ := c_together h.2.1.1 hX
  exact h.que ⟨I, L1, e, f⟩
/-- a chance as a double -/
theorem ch_rr (hW : WT T) (hN : WN T N) (k : Nat) : Rr (FP.ddiv (FP.i2d (nI (ch0 T N k))) (FP.i2d (nI (ch1 T N k)))) (ch0 T N k) (ch1 T N k) 2 := by
  obtain ⟨b1, b2, b3, _⟩ := ch_b (k := k) hW hN
  have h1 := (Ex.i (C := ch0 T N k) (by omega)).rr
  have h2 := Ex.i (C := ch1 T N k) (by omega)
  have := h1.div h2 b3 (Nat.le_trans (Nat.le_trans b1 b2) (by decide)) (Nat.le_trans (by decide : 1 ≤ 2 ^ 64) (Nat.pow_le_pow_right (by omega) (by omega))) (by omega) (Nat.le_trans b2 (by decide))
  rw [Nat.one_mul] at this; exact this
theorem gcd_cross (hW : WT T) (hN : WN T N) (h : pW T N a ≤ pW T N b) : ch0 T N a * ch1 T N b ≤ ch0 T N b * ch1 T N a := by
  obtain ⟨_, _, _, a1, a2, ag⟩ := ch_b (k := a) hW hN
  obtain ⟨_, _, _, b1, b2, bg⟩ := ch_b (k := b) hW hN
  have m := Nat.mul_le_mul_right (aW T N) h
  have e1 : pW T N a * aW T N = ch0 T N a * ch1 T N b * (Nat.gcd (aW T N) (pW T N a) * Nat.gcd (aW T N) (pW T N b)) := by
    conv => lhs; rw [a1]
    conv => lhs; rhs; rw [b2]
    ac_rfl
  have e2 : pW T N b * aW T N = ch0 T N b * ch1 T N a * (Nat.gcd (aW T N) (pW T N a) * Nat.gcd (aW T N) (pW T N b)) := by
    conv => lhs; rw [b1]
    conv => lhs; rhs; rw [a2]
    ac_rfl
  rw [e1, e2] at m
  exact Nat.le_of_mul_le_mul_right m (Nat.mul_pos ag bg)
/-- the last of what two COUNTs are asked -/
theorem l_b274 (h : RB σ I L T N u P K Q n) (ha : a < N 18) (t : Int32) : ∃ I1 L1, mL_pairs_b274 99 (nI a) t t (hk σ I L) = some (1, hk σ I1 L1) ∧ FrL I L I1 L1 ∧ RN σ I1 L1 T N K Q n := by
  obtain ⟨w1, w18, w16, n16, hW, hE⟩ := h.b
  obtain ⟨b0, b1, b2, b3, b4, b5, b6, b7, b8, b9, b10, b11⟩ := hE.1.2.2.2.2.1 a ha
  have wt2 := hW.1.2.2.1
  have T2N := hE.1.2.2.2.1.1
  have bkl := bk_le N a
  have n17 := hE.1.2.2.1
  obtain ⟨f, hf⟩ : ∃ f, f = fst0 T (it N a 0) := ⟨_, rfl⟩
  have fl : f ≤ it N a 0 := by rw [hf]; exact (fz_spec (R := smB T) (show it N a 0 < 8 by omega)).1
  have fN : f < N 18 := by omega
  have f0 : it N f 0 = f := ((hE.1.2.2.2.2.1 f fN).2.2.2.2.2.2.2.2.2.1 (by omega)).2
  have fi : fst0 T (it N f 0) = f := by
    rw [f0, hf]; exact fz_idem (R := smB T) (by omega)
  have la : it N a 0 ≤ a := by
    by_cases q : a < T 2
    · have := (b9 q).2; omega
    · omega
  obtain ⟨I1, L1, e1, r1, f1⟩ := h.of ha (show 10 < 11 by omega)
  obtain ⟨I2, L2, e2, r2, f2⟩ := r1.of ha (show 10 < 11 by omega)
  have e1 : mX11_of 100 (nI a) (10 : Int32) (hk σ I L) = some (nI f, hk σ I1 L1) := by rw [hf]; exact e1
  have e2 : mX11_of 100 (nI a) (10 : Int32) (hk σ I1 L1) = some (nI f, hk σ I2 L2) := by rw [hf]; exact e2
  obtain ⟨I3, L3, e3, r3, f3⟩ := r2.of fN (show 10 < 11 by omega)
  have e3 : mX11_of 100 (nI f) (10 : Int32) (hk σ I2 L2) = some (nI f, hk σ I3 L3) := by
    have e3 : mX11_of 100 (nI f) (10 : Int32) (hk σ I2 L2) = some (nI (fst0 T (it N f 0)), hk σ I3 L3) := e3
    rw [fi] at e3; exact e3
  obtain ⟨I4, L4, e4, r4, f4⟩ := r3.of ha (show 10 < 11 by omega)
  have e4 : mX11_of 100 (nI a) (10 : Int32) (hk σ I3 L3) = some (nI f, hk σ I4 L4) := by rw [hf]; exact e4
  obtain ⟨I5, L5, e5, r5, f5⟩ := r4.of ha (show 3 < 11 by omega)
  have e5 : mX11_of 100 (nI a) (3 : Int32) (hk σ I4 L4) = some (nI (bk N a), hk σ I5 L5) := e5
  obtain ⟨I6, L6, e6, r6, f6⟩ := r5.of ha (show 2 < 11 by omega)
  have e6 : mX11_of 100 (nI a) (2 : Int32) (hk σ I5 L5) = some (nI (it N a 1), hk σ I6 L6) := e6
  obtain ⟨I7, L7, e7, r7, f7⟩ := r6.of ha (show 4 < 11 by omega)
  have e7 : mX11_of 100 (nI a) (4 : Int32) (hk σ I6 L6) = some (nI (it N a 3 + bk N a), hk σ I7 L7) := e7
  obtain ⟨I8, L8, e8, r8, f8⟩ := r7.of ha (show 1 < 11 by omega)
  have e8 : mX11_of 100 (nI a) (1 : Int32) (hk σ I7 L7) = some (nI (it N a 3), hk σ I8 L8) := e8
  obtain ⟨I9, L9, e9, r9, f9⟩ := r8.of ha (show 3 < 11 by omega)
  have e9 : mX11_of 100 (nI a) (3 : Int32) (hk σ I8 L8) = some (nI (bk N a), hk σ I9 L9) := e9
  obtain ⟨Ia, La, ea, ra, fa⟩ := r9.of ha (show 8 < 11 by omega)
  have ea : mX11_of 100 (nI a) (8 : Int32) (hk σ I9 L9) = some (nI (it N a 5), hk σ Ia La) := ea
  obtain ⟨Ib, Lb, eb, rb, fb⟩ := ra.of ha (show 7 < 11 by omega)
  have eb : mX11_of 100 (nI a) (7 : Int32) (hk σ Ia La) = some (nI (it N a 4), hk σ Ib Lb) := eb
  obtain ⟨Ic, Lc, ec, rc, fc⟩ := rb.of ha (show 0 < 11 by omega)
  have ec : mX11_of 100 (nI a) (0 : Int32) (hk σ Ib Lb) = some (nI (it N a 2), hk σ Ic Lc) := ec
  have g0 := c_grown rb.2.1.1 ha (show 0 < 10 by omega)
  have g9 := c_grown rc.2.1.1 ha (show 9 < 10 by omega)
  have g8 := c_grown rc.2.1.1 ha (show 8 < 10 by omega)
  have g0 : mX11_grown 100 (nI a) (0 : Int32) (hk σ Ib Lb) = some (nI (it N a 2)) := g0
  have g9 : mX11_grown 100 (nI a) (9 : Int32) (hk σ Ic Lc) = some (nI (gro (it N a 2) 9)) := g9
  have g8 : mX11_grown 100 (nI a) (8 : Int32) (hk σ Ic Lc) = some (nI (gro (it N a 2) 8)) := g8
  have gb : gro (it N a 2) 9 ≤ 2147483647 := by
    have h1 := gro_le (v := it N a 2) 9
    have h3 : it N a 2 * 2 ^ 9 ≤ 999 * 2 ^ 9 := Nat.mul_le_mul_right _ (by omega)
    have h4 : 999 * 2 ^ 9 ≤ 2147483647 := by decide
    omega
  have gm : gro (it N a 2) 8 ≤ gro (it N a 2) 9 := Nat.le_add_right _ _
  have sa := WN.say hW hE.1 ha
  have e45 : nI (it N a 5) &&& (nI (it N a 4) ^^^ (-1 : Int32)) = 0 := by
    rw [nx_not (by omega), sb_iff.mpr (sb_and' sa.2.2)]; rfl
  refine ⟨Ic, Lc, ?_, (((((((((((f1.tr f2).tr f3).tr f4).tr f5).tr f6).tr f7).tr f8).tr f9).tr fa).tr fb).tr fc), rc.rn⟩
  unfold mL_pairs_b274
  rw [if_pos rfl, gX h.1, e1, b2s, if_neg (nI_nlt (by omega) (by omega)), gX h.1, gX h.1, e2, b2s, e3, b2s, gX h.1, e4, b2s, if_pos rfl, gX h.1, e5, b2s, gX h.1, e6, b2s, if_neg (nI_nlt bkl (by omega)), gX h.1, e7, b2s, gX h.1, e8, b2s, gX h.1, e9, b2s, if_pos (by rw [nI_add]), gX h.1, ea, b2s, gX h.1, eb, b2s, if_pos e45, gX h.1, g0, obind, gX h.1, ec, b2s, if_pos rfl, gX h.1, g9, obind, gX h.1, g9, obind, gX h.1, g8, obind, if_neg (nI_nlt gm (by omega))]
  split <;> rfl
theorem l_pairs (h : RB σ I L T N u P K Q n) (ha : a < N 18) (hb : b < N 18) : ∃ I1 L1, mL_pairs 99 (nI a) (nI b) (hk σ I L) = some (1, hk σ I1 L1) ∧ FrL I L I1 L1 ∧ RN σ I1 L1 T N K Q n := by
  obtain ⟨w1, w18, w16, n16, hW, hE⟩ := h.b
  have lf := h.1
  have wl := fls_le T N a (it N a 4) (it N a 5)
  have wl : why T N a ≤ 6 := wl
  have hz := how_zero (a := a) hE.1
  have p8 : 2 ^ a < 2 ^ N 18 := Nat.pow_lt_pow_right (by omega) ha
  have b258 : ∀ I1 L1, RB σ I1 L1 T N u P K Q n → FrL I L I1 L1 → ∃ I2 L2, mL_pairs_b239 99 (nI a) (hk σ I1 L1) = some (1, hk σ I2 L2) ∧ FrL I L I2 L2 ∧ RN σ I2 L2 T N K Q n := fun I1 L1 r1 f1 => by
    obtain ⟨I2, L2, e2, r2, f2⟩ := r1.together p8
    obtain ⟨I3, L3, e3, r3, f3⟩ := r2.how ha
    rw [tg_one ha] at e2
    unfold mL_pairs_b239
    rw [gX lf, shl1 (by omega), e2, b2s]
    by_cases q : how3 (lft T N) (won T (it N a 0)) = 0
    · obtain ⟨I4, L4, e4, f4, r4⟩ := l_b274 r3 ha 0
      refine ⟨I4, L4, ?_, ((f1.tr f2).tr f3).tr f4, r4⟩
      rw [hz.mp q, if_neg (by decide)]
      unfold mL_pairs_b258
      rw [gX lf, e3, b2s, if_pos q]
      exact e4
    · obtain ⟨I4, L4, e4, f4, r4⟩ := l_b274 r3 ha 1
      refine ⟨I4, L4, ?_, ((f1.tr f2).tr f3).tr f4, r4⟩
      have q2 : anyB (fun w => lft T N w && won T (it N a 0) w) 256 = true := by
        cases z : anyB (fun w => lft T N w && won T (it N a 0) w) 256
        · exact absurd (hz.mpr z) q
        · rfl
      rw [q2, if_pos (show bI true = 1 from rfl)]
      unfold mL_pairs_b258
      rw [gX lf, e3, b2s, if_neg q]
      exact e4
  have b213 : ∀ I1 L1, RB σ I1 L1 T N u P K Q n → FrL I L I1 L1 → ∃ I2 L2, mL_pairs_b213 99 (nI a) (nI b) (hk σ I1 L1) = some (1, hk σ I2 L2) ∧ FrL I L I2 L2 ∧ RN σ I2 L2 T N K Q n := fun I1 L1 r1 f1 => by
    obtain ⟨I2, L2, e2, r2, f2⟩ := r1.how ha
    unfold mL_pairs_b213
    rw [gX lf, e2, b2s]
    by_cases q : how3 (lft T N) (won T (it N a 0)) = 0
    · obtain ⟨I3, L3, e3, r3, f3⟩ := r2.implied ha hb
      have im : impl T N a b = true := impl_none fun w hw hl => by
        have := hz.mp q
        cases z : won T (it N a 0) w
        · rfl
        · rw [anyB_iff.mpr ⟨w, hw, by rw [hl, z]; rfl⟩] at this; cases this
      rw [im] at e3
      rw [if_pos q, gX lf, e3, b2s, if_pos (show bI true = 1 from rfl)]
      exact b258 I3 L3 r3 ((f1.tr f2).tr f3)
    · rw [if_neg q]
      exact b258 I2 L2 r2 (f1.tr f2)
  obtain ⟨bb1, bb2, bb3, _⟩ := ch_b (k := a) hW hE.1
  obtain ⟨bc1, bc2, bc3, _⟩ := ch_b (k := b) hW hE.1
  have ra := ch_rr hW hE.1 a
  have rb := ch_rr hW hE.1 b
  have b173 : ∀ I1 L1, RB σ I1 L1 T N u P K Q n → FrL I L I1 L1 → ∃ I2 L2, mL_pairs_b173 99 (nI a) (nI b) (FP.ddiv (FP.i2d (nI (ch0 T N a))) (FP.i2d (nI (ch1 T N a)))) (FP.ddiv (FP.i2d (nI (ch0 T N b))) (FP.i2d (nI (ch1 T N b)))) (hk σ I1 L1) = some (1, hk σ I2 L2) ∧ FrL I L I2 L2 ∧ RN σ I2 L2 T N K Q n := fun I1 L1 r1 f1 => by
    obtain ⟨I2, L2, e2, r2, f2⟩ := r1.implied ha hb
    unfold mL_pairs_b173
    rw [gX lf, e2, b2s]
    cases i1 : impl T N a b
    · rw [if_neg (show ¬ bI false = 1 by decide)]
      exact b213 I2 L2 r2 (f1.tr f2)
    · rw [if_pos (show bI true = 1 from rfl)]
      obtain ⟨I3, L3, e3, r3, f3⟩ := r2.implied hb ha
      rw [gX lf, e3, b2s]
      cases i2 : impl T N b a
      · rw [if_neg (show ¬ bI false = 1 by decide)]
        exact b213 I3 L3 r3 ((f1.tr f2).tr f3)
      · have cr := Nat.le_antisymm (gcd_cross hW hE.1 (impl_le i1)) (gcd_cross hW hE.1 (impl_le i2))
        obtain ⟨v, w, d1, d2, d3⟩ := close_ok (ra.eq bc3 cr) rb bc1 (by omega)
        rw [if_pos (show bI true = 1 from rfl), d1, obind, d2, obind, d3, if_neg (by decide)]
        exact b213 I3 L3 r3 ((f1.tr f2).tr f3)
  have b104 : ∀ I1 L1, RB σ I1 L1 T N u P K Q n → FrL I L I1 L1 → ∃ I2 L2, mL_pairs_b104 99 (nI a) (nI b) (hk σ I1 L1) = some (1, hk σ I2 L2) ∧ FrL I L I2 L2 ∧ RN σ I2 L2 T N K Q n := fun I1 L1 r1 f1 => by
    obtain ⟨I2, L2, e2, r2, f2⟩ := r1.chance ha (show 0 < 2 by omega)
    obtain ⟨I3, L3, e3, r3, f3⟩ := r2.chance ha (show 1 < 2 by omega)
    obtain ⟨I4, L4, e4, r4, f4⟩ := r3.chance hb (show 0 < 2 by omega)
    obtain ⟨I5, L5, e5, r5, f5⟩ := r4.chance hb (show 1 < 2 by omega)
    obtain ⟨I6, L6, e6, r6, f6⟩ := r5.implied ha hb
    have e2 : mX11_chance 100 (nI a) (0 : Int32) (hk σ I1 L1) = some (nI (ch0 T N a), hk σ I2 L2) := e2
    have e3 : mX11_chance 100 (nI a) (1 : Int32) (hk σ I2 L2) = some (nI (ch1 T N a), hk σ I3 L3) := e3
    have e4 : mX11_chance 100 (nI b) (0 : Int32) (hk σ I3 L3) = some (nI (ch0 T N b), hk σ I4 L4) := e4
    have e5 : mX11_chance 100 (nI b) (1 : Int32) (hk σ I4 L4) = some (nI (ch1 T N b), hk σ I5 L5) := e5
    have f0 := ((((f1.tr f2).tr f3).tr f4).tr f5).tr f6
    unfold mL_pairs_b104
    rw [gX lf, e2, b2s, gX lf, e3, b2s, dNN_num ra.num, obind, gX lf, e4, b2s, gX lf, e5, b2s, dNN_num rb.num, obind, gX lf, e6, b2s]
    cases i1 : impl T N a b
    · rw [if_neg (show ¬ bI false = 1 by decide)]
      exact b173 I6 L6 r6 f0
    · obtain ⟨v, d1, d2⟩ := gt_add ra rb (gcd_cross hW hE.1 (impl_le i1)) (by omega) (by omega) (by omega)
      rw [if_pos (show bI true = 1 from rfl), d1, obind, if_neg d2]
      exact b173 I6 L6 r6 f0
  have b75 : ∀ I1 L1, RB σ I1 L1 T N u P K Q n → FrL I L I1 L1 → ∃ I2 L2, mL_pairs_b75 99 (nI a) (nI b) (hk σ I1 L1) = some (1, hk σ I2 L2) ∧ FrL I L I2 L2 ∧ RN σ I2 L2 T N K Q n := fun I1 L1 r1 f1 => by
    obtain ⟨I2, L2, e2, r2, f2⟩ := r1.why ha
    unfold mL_pairs_b75
    rw [gX lf, e2, b2s, show (2 : Int32) = nI 2 from rfl, c_eqd (show why T N a < 2147483648 by omega) (by omega)]
    by_cases q : why T N a = 2
    · obtain ⟨I3, L3, e3, r3, f3⟩ := r2.clash ha hb
      rw [clsh_of2 q] at e3
      rw [if_pos q, gX lf, e3, b2s, if_pos (show bI true = 1 from rfl)]
      exact b104 I3 L3 r3 ((f1.tr f2).tr f3)
    · rw [if_neg q]
      exact b104 I2 L2 r2 (f1.tr f2)
  obtain ⟨I1, L1, e1, r1, f1⟩ := h.clash ha hb
  obtain ⟨I2, L2, e2, r2, f2⟩ := r1.clash hb ha
  obtain ⟨I3, L3, e3, r3, f3⟩ := r2.implied ha ha
  obtain ⟨I4, L4, e4, r4, f4⟩ := r3.clash ha ha
  have f0 := ((f1.tr f2).tr f3).tr f4
  rw [clsh_sym] at e2
  rw [impl_self] at e3
  unfold mL_pairs
  rw [if_pos (s99 lf), gX lf, e1, b2s, gX lf, e2, b2s, if_pos rfl, gX lf, e3, b2s, if_pos (show bI true = 1 from rfl), gX lf, e4, b2s]
  cases q : clsh T N a a
  · rw [if_neg (show ¬ bI false = 1 by decide)]
    exact b75 I4 L4 r4 f0
  · rw [if_pos (show bI true = 1 from rfl)]
    obtain ⟨I5, L5, e5, r5, f5⟩ := r4.why ha
    obtain ⟨I6, L6, e6, r6, f6⟩ := r5.why ha
    have w12 : why T N a = 1 ∨ why T N a = 2 := why_12 q
    rw [gX lf, e5, b2s, show (1 : Int32) = nI 1 from rfl, c_eqd (show why T N a < 2147483648 by omega) (by omega)]
    by_cases z : why T N a = 1
    · rw [if_pos z]
      exact b75 I5 L5 r5 (f0.tr f5)
    · rw [if_neg z, gX lf, e6, b2s, show (2 : Int32) = nI 2 from rfl, c_eqd (show why T N a < 2147483648 by omega) (by omega), if_pos (by omega)]
      exact b75 I6 L6 r6 ((f0.tr f5).tr f6)
end E7
