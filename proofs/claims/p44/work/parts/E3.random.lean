section E3
variable {σ σ' : Sg} {I I' I1 I2 : Nat → Nat → Int32} {L L' L1 L2 : Nat → Nat → Int64} {T N M : Nat → Nat} {a F n : Nat} {P : Nat → Nat → Nat} {K : Nat → Bool} {Q : Nat → Nat → Nat}
theorem AX.any {cls : Option (Int32 × Hp)} {Bd : Prop} {Gd : (Nat → Nat) → Prop} (h : AX σ I L T N a P K Q cls Bd Gd) : AX σ I L T N a P K Q cls True (fun _ => True) := by
  obtain ⟨v, I1, L1, e, f, q⟩ := h
  refine ⟨v, I1, L1, e, f, ?_⟩
  rcases q with ⟨q1, q2, _⟩ | ⟨q1, N', q2, _⟩
  · exact Or.inl ⟨q1, q2, trivial⟩
  · exact Or.inr ⟨q1, N', q2, trivial⟩
/-- in a round, whatever is now, was; so much drawn at most -/
def RE (σ : Sg) (I : Nat → Nat → Int32) (L : Nat → Nat → Int64) (T : Nat → Nat) (K : Nat → Bool) (Q : Nat → Nat → Nat) (n : Nat) : Prop := ∃ N a P n', n' ≤ n ∧ RB σ I L T N a P K Q n'
/-- what the law asks after an act -/
theorem l_b267 {m i : Nat} {v : Int32} (ha : a ≤ 16) (hn : n < 100000000) (fL : FrL I L I1 L1) (q : (v < 0 ∧ RB σ I1 L1 T N a P K Q n) ∨ (¬ v < 0 ∧ ∃ N', RB σ I1 L1 T N' (min (a + 1) 16) (psh a P N) K Q n)) :
    ∃ I2 L2, mL_acts_b267 99 (nI m) (nI i) (dig T N) (nI a) v (hk σ I1 L1) = some (.inl (nI (i + 1), hk σ I2 L2)) ∧ FrL I L I2 L2 ∧ RE σ I2 L2 T K Q (n + 1) := by
  rcases q with ⟨hv, r⟩ | ⟨hv, N', r⟩
  · obtain ⟨I2, L2, e2, r2, f2⟩ := r.dig
    obtain ⟨I3, L3, e3, r3, f3⟩ := r2.cnt (show 7 < 8 by omega)
    have e3 : mX11_count 100 (7 : Int32) (hk σ I2 L2) = some (nI a, hk σ I3 L3) := e3
    refine ⟨I3, L3, ?_, (fL.tr f2).tr f3, N, a, P, n, by omega, r3⟩
    unfold mL_acts_b267
    rw [if_pos hv, e2, b2s, if_pos rfl, gX r.1, e3, b2s, if_pos rfl]
    unfold mL_acts_b320 mL_acts_b370
    rw [if_pos hv, nI_1]
  · obtain ⟨I3, L3, e3, r3, f3⟩ := r.cnt (show 7 < 8 by omega)
    have e3 : mX11_count 100 (7 : Int32) (hk σ I1 L1) = some (nI (min (a + 1) 16), hk σ I3 L3) := e3
    have mn : mmin (16 : Int32) (nI a + 1) = nI (min (a + 1) 16) := by
      rw [nI_1, show (16 : Int32) = nI 16 from rfl, min_d (by omega) (by omega), Nat.min_comm]
    unfold mL_acts_b267
    rw [if_neg hv, gX r.1, e3, b2s, mn, if_pos rfl]
    unfold mL_acts_b320 mL_acts_b370
    rw [if_neg hv]
    obtain ⟨j, I4, hj, e4, r4, f4⟩ := r3.draw (by omega) (m := 3) (by omega) (by omega)
    have e4 : mL_draw 99 (3 : Int32) (hk σ I3 L3) = some (nI j, hk σ I4 L3) := e4
    rw [e4, b2s, c_0 (by omega)]
    by_cases hz : j = 0
    · rw [if_pos hz]
      obtain ⟨I5, e5, f5, r5⟩ := l_taken1 r4 ha
      have e5 : mL_taken 99 (1 : Int32) (hk σ I4 L3) = some (1, hk σ I5 L3) := e5
      obtain ⟨I6, L6, e6, r6, f6⟩ := r5.dig
      obtain ⟨I7, L7, e7, r7, f7⟩ := r6.cnt (show 7 < 8 by omega)
      have e7 : mX11_count 100 (7 : Int32) (hk σ I6 L6) = some (nI (min a 15), hk σ I7 L7) := e7
      have mn2 : mmin (15 : Int32) (nI a) = nI (min a 15) := by
        rw [show (15 : Int32) = nI 15 from rfl, min_d (by omega) (by omega), Nat.min_comm]
      refine ⟨I7, L7, ?_, (((((fL.tr f3).tr f4).tr f5).tr f6).tr f7), _, _, _, n + 1, by omega, r7⟩
      rw [e5, b2s, if_neg (by decide), e6, b2s, if_pos rfl, gX r.1, e7, b2s, mn2, if_pos rfl, nI_1]
    · rw [if_neg hz]
      exact ⟨I4, L3, by rw [nI_1], (fL.tr f3).tr f4, _, _, _, n + 1, by omega, r4⟩
theorem l_act {m i : Nat} {cls : Option (Int32 × Hp)} (hn : n < 100000000) (fL : FrL I L I1 L1) (r : RB σ I1 L1 T N a P K Q n) (x : AX σ I1 L1 T N a P K Q cls True (fun _ => True)) :
    ∃ I2 L2, b2 cls (fun v h => mL_acts_b267 99 (nI m) (nI i) (dig T N) (nI a) v h) = some (.inl (nI (i + 1), hk σ I2 L2)) ∧ FrL I L I2 L2 ∧ RE σ I2 L2 T K Q (n + 1) := by
  obtain ⟨v, I2, L2, e, f2, q⟩ := r.ax x
  rw [e, b2s]
  refine l_b267 (N := N) (P := P) r.b.2.2.1 hn (fL.tr f2) ?_
  rcases q with ⟨q1, q2, _⟩ | ⟨q1, N', q2, _⟩
  · exact Or.inl ⟨q1, q2⟩
  · exact Or.inr ⟨q1, N', q2⟩
/-- acts drawn at random -/
theorem l_acts {m : Nat} (hm : m < 100) (hn : n < 50000000) (h : RE σ I L T K Q n) : ∃ I1 L1, mL_acts 99 (nI m) (hk σ I L) = some (1, hk σ I1 L1) ∧ FrL I L I1 L1 ∧ RE σ I1 L1 T K Q (n + 10 * m) := by
  have lf : LF σ := by obtain ⟨_, _, _, _, _, r⟩ := h; exact r.1
  unfold mL_acts mL_acts_l2
  rw [if_pos (s99 lf)]
  obtain ⟨o, e, I1, L1, rfl, f1, r1⟩ := lp_inv (f := fun s : (Int32 × Hp) => mL_acts_l2f 99 (nI m) s.1 s.2) m (fun i st => ∃ I1 L1, st = (nI i, hk σ I1 L1) ∧ FrL I L I1 L1 ∧ RE σ I1 L1 T K Q (n + 10 * i))
    (fun o => ∃ I1 L1, o = (1, hk σ I1 L1) ∧ FrL I L I1 L1 ∧ RE σ I1 L1 T K Q (n + 10 * m))
    (fun i st hi hQ => by
      obtain ⟨I1, L1, rfl, f1, N, a, P, n1, hn1, r1⟩ := hQ
      obtain ⟨w1, w18, w16, n16, hW, hE⟩ := r1.b
      obtain ⟨I2, L2, e2, r2, f2⟩ := r1.dig
      obtain ⟨I3, L3, e3, r3, f3⟩ := r2.cnt (show 7 < 8 by omega)
      have e3 : mX11_count 100 (7 : Int32) (hk σ I2 L2) = some (nI a, hk σ I3 L3) := e3
      have e4 : gI 15 3 99 (hk σ I3 L3) = some (nI (T 1)) := by rw [gI_ok (s99 lf), hpI_hk, r3.2.2.1]
      obtain ⟨j1, I5, hj1, e5, r5, f5⟩ := r3.draw (by omega) (m := T 1 + 1) (by omega) (by omega)
      obtain ⟨j2, I6, hj2, e6, r6, f6⟩ := r5.draw (by omega) (m := 2) (by omega) (by omega)
      have e6 : mL_draw 99 (2 : Int32) (hk σ I5 L3) = some (nI j2, hk σ I6 L3) := e6
      obtain ⟨I7, L7, e7, r7, f7⟩ := r6.cnt (show 2 < 8 by omega)
      have e7 : mX11_count 100 (2 : Int32) (hk σ I6 L3) = some (nI (N 18), hk σ I7 L7) := e7
      obtain ⟨j3, I8, hj3, e8, r8, f8⟩ := r7.draw (by omega) (m := N 18 + 1) (by omega) (by omega)
      obtain ⟨j4, I9, hj4, e9, r9, f9⟩ := r8.draw (by omega) (m := 8) (by omega) (by omega)
      have e9 : mL_draw 99 (8 : Int32) (hk σ I8 L7) = some (nI j4, hk σ I9 L7) := e9
      have fL : FrL I L I9 L7 := ((((((f1.tr f2).tr f3).tr f5).tr f6).tr f7).tr f8).tr f9
      have g1 : ∀ {Ix : Nat → Nat → Int32} {Lx : Nat → Nat → Int64} {ρ : Type} (f : Nat → Option ρ), (gR 15 0 99 (hk σ Ix Lx)).bind f = f 100 := fun f => gX lf f
      have goal : ∃ I' L', mL_acts_l2f 99 (nI m) (nI i) (hk σ I1 L1) = some (.inl (nI (i + 1), hk σ I' L')) ∧ FrL I L I' L' ∧ RE σ I' L' T K Q (n + 10 * i + 10) := by
        have up : ∀ {I' : Nat → Nat → Int32} {L' : Nat → Nat → Int64} {n2 : Nat}, n2 ≤ n1 + 10 → RE σ I' L' T K Q n2 → RE σ I' L' T K Q (n + 10 * i + 10) := fun hle hr => by
          obtain ⟨N2, a2, P2, n3, h3, r3⟩ := hr
          exact ⟨N2, a2, P2, n3, by omega, r3⟩
        unfold mL_acts_l2f
        rw [c_lt hi (by omega), e2, b2s, g1, e3, b2s, e4, obind, nI_1, e5, b2s, e6, b2s, g1, e7, b2s, nI_1, e8, b2s, e9, b2s, tsw_n (by omega)]
        rcases (show j4 = 0 ∨ j4 = 1 ∨ j4 = 2 ∨ j4 = 3 ∨ j4 = 4 ∨ j4 = 5 ∨ j4 = 6 ∨ j4 = 7 by omega) with rfl | rfl | rfl | rfl | rfl | rfl | rfl | rfl
        · obtain ⟨j, Ia, hj, ea, ra, fa⟩ := r9.draw (by omega) (m := 5) (by omega) (by omega)
          have ea : mL_draw 99 (5 : Int32) (hk σ I9 L7) = some (nI j, hk σ Ia L7) := ea
          obtain ⟨Ib, Lb, eb, fb, rb⟩ := l_act (m := m) (i := i) (by omega) (fL.tr fa) ra (c_answer ra.2.1 (nI j1 - nI j2) (nI j)).any
          exact ⟨Ib, Lb, by rw [td0, g1, ea, b2s]; exact eb, fb, up (by omega) rb⟩
        · obtain ⟨j, Ia, hj, ea, ra, fa⟩ := r9.draw (by omega) (m := 5) (by omega) (by omega)
          have ea : mL_draw 99 (5 : Int32) (hk σ I9 L7) = some (nI j, hk σ Ia L7) := ea
          obtain ⟨Ib, Lb, eb, fb, rb⟩ := l_act (m := m) (i := i) (by omega) (fL.tr fa) ra (c_answer ra.2.1 (nI j1 - nI j2) (nI j)).any
          exact ⟨Ib, Lb, by rw [td1, g1, ea, b2s]; exact eb, fb, up (by omega) rb⟩
        · obtain ⟨Ib, Lb, eb, fb, rb⟩ := l_act (m := m) (i := i) (by omega) fL r9 (c_withdraw r9.2.1 (nI j1 - nI j2))
          exact ⟨Ib, Lb, by rw [td2, g1]; exact eb, fb, up (by omega) rb⟩
        · obtain ⟨j, Ia, hj, ea, ra, fa⟩ := r9.draw (by omega) (m := 4) (by omega) (by omega)
          have ea : mL_draw 99 (4 : Int32) (hk σ I9 L7) = some (nI j, hk σ Ia L7) := ea
          rw [td3, ea, b2s, c_0 (by omega)]
          by_cases hz : j = 0
          · obtain ⟨Ib, Lb, eb, fb, rb⟩ := l_act (m := m) (i := i) (by omega) (fL.tr fa) ra (c_close ra.2.1)
            exact ⟨Ib, Lb, by rw [if_pos hz, g1]; exact eb, fb, up (by omega) rb⟩
          · rw [if_neg hz, g1]
            obtain ⟨jj, Ic, hjj, ec, rc, fc⟩ := ra.draw (by omega) (m := 2) (by omega) (by omega)
            have ec : mL_draw 99 (2 : Int32) (hk σ Ia L7) = some (nI jj, hk σ Ic L7) := ec
            rw [ec, b2s, c_0 (by omega)]
            by_cases hy : jj = 0
            · obtain ⟨Ib, Lb, eb, fb, rb⟩ := l_act (m := m) (i := i) (by omega) ((fL.tr fa).tr fc) rc (c_find rc.2.1 (nI j1 - nI j2) true).any
              exact ⟨Ib, Lb, by rw [if_pos hy]; exact eb, fb, up (by omega) rb⟩
            · obtain ⟨Ib, Lb, eb, fb, rb⟩ := l_act (m := m) (i := i) (by omega) ((fL.tr fa).tr fc) rc (c_find rc.2.1 (nI j1 - nI j2) false).any
              exact ⟨Ib, Lb, by rw [if_neg hy]; exact eb, fb, up (by omega) rb⟩
        · obtain ⟨j, Ia, hj, ea, ra, fa⟩ := r9.draw (by omega) (m := 3) (by omega) (by omega)
          have ea : mL_draw 99 (3 : Int32) (hk σ I9 L7) = some (nI j, hk σ Ia L7) := ea
          obtain ⟨Ib, Lb, eb, fb, rb⟩ := l_act (m := m) (i := i) (by omega) (fL.tr fa) ra (c_say ra.2.1 (nI j3) (nI j1 - nI j2) (nI j)).any
          exact ⟨Ib, Lb, by rw [td4, g1, ea, b2s]; exact eb, fb, up (by omega) rb⟩
        · obtain ⟨j, Ia, hj, ea, ra, fa⟩ := r9.draw (by omega) (m := 3) (by omega) (by omega)
          have ea : mL_draw 99 (3 : Int32) (hk σ I9 L7) = some (nI j, hk σ Ia L7) := ea
          obtain ⟨Ib, Lb, eb, fb, rb⟩ := l_act (m := m) (i := i) (by omega) (fL.tr fa) ra (c_say ra.2.1 (nI j3) (nI j1 - nI j2) (nI j)).any
          exact ⟨Ib, Lb, by rw [td5, g1, ea, b2s]; exact eb, fb, up (by omega) rb⟩
        · obtain ⟨j, Ia, hj, ea, ra, fa⟩ := r9.draw (by omega) (m := 3) (by omega) (by omega)
          have ea : mL_draw 99 (3 : Int32) (hk σ I9 L7) = some (nI j, hk σ Ia L7) := ea
          rw [td6, ea, b2s, c_0 (by omega)]
          by_cases hz : j = 0
          · obtain ⟨Ib, Lb, eb, fb, rb⟩ := l_act (m := m) (i := i) (by omega) (fL.tr fa) ra (c_strike ra.2.1 (nI j3))
            exact ⟨Ib, Lb, by rw [if_pos hz, g1]; exact eb, fb, up (by omega) rb⟩
          · rw [if_neg hz, g1]
            obtain ⟨jj, Ic, hjj, ec, rc, fc⟩ := ra.draw (by omega) (m := 200) (by omega) (by omega)
            have ec : mL_draw 99 (200 : Int32) (hk σ Ia L7) = some (nI jj, hk σ Ic L7) := ec
            obtain ⟨Ib, Lb, eb, fb, rb⟩ := l_act (m := m) (i := i) (by omega) ((fL.tr fa).tr fc) rc (c_days rc.2.1 (nI jj))
            exact ⟨Ib, Lb, by rw [ec, b2s]; exact eb, fb, up (by omega) rb⟩
        · obtain ⟨j, Ia, hj, ea, ra, fa⟩ := r9.draw (by omega) (m := 1000) (by omega) (by omega)
          have ea : mL_draw 99 (1000 : Int32) (hk σ I9 L7) = some (nI j, hk σ Ia L7) := ea
          obtain ⟨jj, Ic, hjj, ec, rc, fc⟩ := ra.draw (by omega) (m := 700) (by omega) (by omega)
          have ec : mL_draw 99 (700 : Int32) (hk σ Ia L7) = some (nI jj, hk σ Ic L7) := ec
          obtain ⟨Ib, Lb, eb, fb, rb⟩ := l_act (m := m) (i := i) (by omega) ((fL.tr fa).tr fc) rc (c_add rc.2.1 (nI j3) (nI j) (nI jj))
          exact ⟨Ib, Lb, by rw [tdN (by simp), g1, ea, b2s, ec, b2s]; exact eb, fb, up (by omega) rb⟩
      obtain ⟨I', L', eg, fg, rg⟩ := goal
      exact ⟨(nI (i + 1), hk σ I' L'), eg, I', L', rfl, fg, by rw [show n + 10 * (i + 1) = n + 10 * i + 10 by omega]; exact rg⟩)
    (fun st hQ => by
      obtain ⟨I1, L1, rfl, f1, r1⟩ := hQ
      refine ⟨(1, hk σ I1 L1), ?_, I1, L1, rfl, f1, r1⟩
      show mL_acts_l2f 99 (nI m) (nI m) (hk σ I1 L1) = _
      unfold mL_acts_l2f
      rw [c_nlt (Nat.le_refl _) (by omega), xts]) (s := (nI 0, hk σ I L)) ⟨I, L, rfl, FrL.rf, h⟩
  exact ⟨I1, L1, e, f1, r1⟩
end E3
