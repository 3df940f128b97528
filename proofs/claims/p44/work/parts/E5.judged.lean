section E5
variable {σ σ' : Sg} {I I' I1 I2 : Nat → Nat → Int32} {L L' L1 L2 : Nat → Nat → Int64} {T N M : Nat → Nat} {a F n k : Nat} {P : Nat → Nat → Nat} {K : Nat → Bool} {Q : Nat → Nat → Nat}
theorem RB.que {v : Int32} {m : Option (Int32 × Hp)} (h : RB σ I L T N a P K Q n) (e : ∃ I1 L1, m = some (v, hk σ I1 L1) ∧ FrC I L I1 L1) : ∃ I1 L1, m = some (v, hk σ I1 L1) ∧ RB σ I1 L1 T N a P K Q n ∧ FrL I L I1 L1 := by
  obtain ⟨I1, L1, e, f⟩ := e
  exact ⟨I1, L1, e, h.q f, f.fL⟩
theorem RB.chance (h : RB σ I L T N a P K Q n) (hk' : k < N 18) {j : Nat} (hj : j < 2) : ∃ I1 L1, mX11_chance 100 (nI k) (nI j) (hk σ I L) = some (nI (if j = 0 then ch0 T N k else ch1 T N k), hk σ I1 L1) ∧ RB σ I1 L1 T N a P K Q n ∧ FrL I L I1 L1 := by
  obtain ⟨L1, e, f⟩ := c_chance h.2.1.1 hk' hj
  exact h.que ⟨I, L1, e, f⟩
theorem RB.tries0 (h : RB σ I L T N a P K Q n) (hk' : k < N 18) : ∃ I1 L1, mX11_tries 100 (nI k) 0 (hk σ I L) = some (nI (btr T N k 0), hk σ I1 L1) ∧ RB σ I1 L1 T N a P K Q n ∧ FrL I L I1 L1 := by
  obtain ⟨v, I1, L1, e, f, q, _⟩ := c_tries h.2.1.1 h.2.1.2.2.2 hk' (show 0 < 2 by omega)
  rw [q rfl] at e
  exact h.que ⟨I1, L1, e, f⟩
theorem RB.issues (h : RB σ I L T N a P K Q n) (hk' : k < N 18) : ∃ I1 L1, mX11_issues 100 (nI k) (hk σ I L) = some (nI (bs (isB T N (it N k 0) 256) (T 1)), hk σ I1 L1) ∧ RB σ I1 L1 T N a P K Q n ∧ FrL I L I1 L1 := by
  obtain ⟨L1, e, f⟩ := c_issues h.2.1.1 hk'
  exact h.que ⟨I, L1, e, f⟩
theorem RB.duel (h : RB σ I L T N a P K Q n) (hk' : k < N 18) {fi : Nat} (hfi : fi < 2) : ∃ I1 L1, mX11_duel 100 (nI k) (nI fi) (hk σ I L) = some (bI (dv T N k fi 0), hk σ I1 L1) ∧ RB σ I1 L1 T N a P K Q n ∧ FrL I L I1 L1 :=
  h.que (c_duel h.2.1.1 h.2.1.2.2.2 hk' hfi)
theorem RB.proofs (h : RB σ I L T N a P K Q n) (hk' : k < N 18) (wn : Bool) : ∃ I1 L1, mX11_proofs 100 (nI k) (bI wn) (hk σ I L) = some (nI (cntB (kq T N k wn) 589824), hk σ I1 L1) ∧ RB σ I1 L1 T N a P K Q n ∧ FrL I L I1 L1 :=
  h.que (c_proofs h.2.1.1 h.2.1.2.2.2 hk' wn)
/-- no issue where it is sure -/
theorem iss_0 (hW : WT T) {wn : Bool} (h : ∀ w, w < 256 → lft T N w = true → won T (it N k 0) w = wn) : bs (isB T N (it N k 0) 256) (T 1) = 0 := by
  have w1 := hW.1.2.1
  apply Nat.eq_of_testBit_eq
  intro f
  rw [bs_bit, Nat.zero_testBit]
  by_cases hf : f < T 1
  · cases q : isB T N (it N k 0) 256 f
    · rw [Bool.and_false]
    · exfalso
      obtain ⟨w, hw, h2⟩ := anyB_iff.mp q
      rw [Bool.and_eq_true, Bool.and_eq_true, Bool.and_eq_true] at h2
      have a1 := h w hw h2.1.1
      have a2 := h2.2.2
      have a3 := h _ (xor_lt hw (show f < 8 by omega)) h2.2.1
      rw [h2.1.2] at a1
      rw [a3, ← a1] at a2; cases a2
  · rw [decide_eq_false hf, Bool.false_and]
theorem unk_n (hW : WT T) (hE : WN T N) : nI (T 1) - nI (pc (knF N)) = nI (pc (fre T N)) := by
  have pf := pc_fre (T := T) (N := N) hW (fun g hg => (hE.1 g hg).2.2.2)
  rw [nI_sub (by omega)]
  congr 1; omega
/-- where it is sure -/
theorem l_jsure (h : RB σ I L T N a P K Q n) (hk' : k < N 18) (wn : Bool) (hall : ∀ w, w < 256 → lft T N w = true → won T (it N k 0) w = wn) :
    ∃ I1 L1, (if bI wn = (1 : Int32) then mL_judged_b230 99 (nI k) (bI wn) 100 (nI k) (1 : Int32) (hk σ I L) else mL_judged_b230 99 (nI k) (bI wn) 100 (nI k) (0 : Int32) (hk σ I L)) = some (1, hk σ I1 L1) ∧ RB σ I1 L1 T N a P K Q n ∧ FrL I L I1 L1 := by
  obtain ⟨w1, w18, w16, n16, hW, hE⟩ := h.b
  have d0 : ∀ fi, dv T N k fi 0 = wn := fun fi => by
    cases wn
    · have : cn (lw T N k) (T 1) 0 = 0 := by
        rw [cn_0, cntB_0]
        refine Bool.eq_false_iff.mpr fun z => ?_
        obtain ⟨w, hw, h2⟩ := anyB_iff.mp z
        unfold lw at h2
        rw [Bool.and_eq_true] at h2
        rw [hall w hw h2.1] at h2; cases h2.2
      exact dv_sure0 hE.1 this
    · have : cn (lw T N k) (T 1) 0 = cn (lft T N) (T 1) 0 := by
        rw [cn_0, cn_0]
        refine cntB_congr fun w hw => ?_
        unfold lw
        cases q : lft T N w
        · rfl
        · rw [hall w hw q]; rfl
      exact dv_sure1 hE.1 this
  obtain ⟨I1, L1, e1, r1, f1⟩ := h.proofs hk' wn
  rw [kq_sure hW hE.1 hall] at e1
  obtain ⟨c, I2, L2, hc, hq, hci, e2, f2⟩ := c_proof r1.2.1.1 r1.2.1.2.2.2 hk' wn (i := 0) (by rw [kq_sure hW hE.1 hall]; omega) (show 0 < 2 by omega)
  obtain rfl : c = 0 := kq_only hW hc hall hq
  have e2 : mX11_proof 100 (nI k) (bI wn) (0 : Int32) (0 : Int32) (hk σ I1 L1) = some (0, hk σ I2 L2) := e2
  have r2 := r1.q f2
  obtain ⟨I3, L3, e3, r3, f3⟩ := r2.proofs hk' (!wn)
  rw [kq_not hW (fun w hw hl => by rw [hall w hw hl]; cases wn <;> rfl)] at e3
  obtain ⟨I4, L4, e4, r4, f4⟩ := r3.duel hk' (show 0 < 2 by omega)
  have e4 : mX11_duel 100 (nI k) (0 : Int32) (hk σ I3 L3) = some (bI (dv T N k 0 0), hk σ I4 L4) := e4
  obtain ⟨I5, L5, e5, r5, f5⟩ := r4.duel hk' (show 1 < 2 by omega)
  have e5 : mX11_duel 100 (nI k) (1 : Int32) (hk σ I4 L4) = some (bI (dv T N k 1 0), hk σ I5 L5) := e5
  obtain ⟨I6, L6, e6, r6, f6⟩ := r5.issues hk'
  rw [iss_0 hW hall] at e6
  rw [d0] at e4 e5
  refine ⟨I6, L6, ?_, r6, ((((f1.tr f2.fL).tr f3).tr f4).tr f5).tr f6⟩
  cases wn
  · have e1 : mX11_proofs 100 (nI k) (0 : Int32) (hk σ I L) = some (1, hk σ I1 L1) := e1
    have e2 : mX11_proof 100 (nI k) (0 : Int32) (0 : Int32) (0 : Int32) (hk σ I1 L1) = some (0, hk σ I2 L2) := e2
    have e3 : mX11_proofs 100 (nI k) (1 : Int32) (hk σ I2 L2) = some (0, hk σ I3 L3) := e3
    rw [if_neg (show ¬ bI false = 1 by decide)]
    unfold mL_judged_b230
    rw [e1, b2s, if_pos rfl, gX h.1, if_neg (show ¬ bI false = 1 by decide)]
    unfold mL_judged_b252
    rw [e2, b2s, if_pos rfl, gX h.1, if_pos (show bI false = 0 from rfl)]
    unfold mL_judged_b274
    rw [e3, b2s, if_pos rfl, gX h.1, e4, b2s, if_pos rfl, gX h.1, e5, b2s, if_pos rfl, gX h.1, e6, b2s, if_pos (show nI 0 = 0 from rfl)]
  · have e1 : mX11_proofs 100 (nI k) (1 : Int32) (hk σ I L) = some (1, hk σ I1 L1) := e1
    have e2 : mX11_proof 100 (nI k) (1 : Int32) (0 : Int32) (0 : Int32) (hk σ I1 L1) = some (0, hk σ I2 L2) := e2
    have e3 : mX11_proofs 100 (nI k) (0 : Int32) (hk σ I2 L2) = some (0, hk σ I3 L3) := e3
    rw [if_pos (show bI true = 1 from rfl)]
    unfold mL_judged_b230
    rw [e1, b2s, if_pos rfl, gX h.1, if_pos (show bI true = 1 from rfl)]
    unfold mL_judged_b252
    rw [e2, b2s, if_pos rfl, gX h.1, if_neg (show ¬ bI true = 0 by decide)]
    unfold mL_judged_b274
    rw [e3, b2s, if_pos rfl, gX h.1, e4, b2s, if_pos rfl, gX h.1, e5, b2s, if_pos rfl, gX h.1, e6, b2s, if_pos (show nI 0 = 0 from rfl)]
/-- turn by turn, then a drawn proof of each kind -/
theorem l_j407 (h : RB σ I L T N a P K Q n) (hn : n < 90000000) (hk' : k < N 18) (hm : mix T N k 0 = true) :
    ∃ I1 L1, mL_judged_l407 99 (nI k) (0 : Int32) (hk σ I L) = some (1, hk σ I1 L1) ∧ FrL I L I1 L1 ∧ RN σ I1 L1 T N K Q (n + 2) := by
  obtain ⟨w1, w18, w16, n16, hW, hE⟩ := h.b
  unfold mL_judged_l407
  obtain ⟨o, e, I5, L5, rfl, f5, r5⟩ := lp_inv (f := fun s : (Int32 × Hp) => mL_judged_l407f 99 (nI k) s.1 s.2) 2
    (fun i st => ∃ I5 L5 a' P', st = (nI i, hk σ I5 L5) ∧ FrL I L I5 L5 ∧ RB σ I5 L5 T N a' P' K Q n)
    (fun o => ∃ I5 L5, o = (1, hk σ I5 L5) ∧ FrL I L I5 L5 ∧ RN σ I5 L5 T N K Q (n + 2))
    (fun i st hi hQ => by
      obtain ⟨I5, L5, a', P', rfl, f5, r5⟩ := hQ
      have a16 : a' ≤ 16 := r5.b.2.2.1
      obtain ⟨I6, L6, e6, f6⟩ := c_turn r5.2.1.1 r5.2.1.2.2.2 hk' hi (show 0 < 2 by omega)
      have r6 := r5.q f6
      obtain ⟨I7, L7, e7, f7⟩ := c_turn r6.2.1.1 r6.2.1.2.2.2 hk' hi (show 1 < 2 by omega)
      have r7 := r6.q f7
      obtain ⟨I8, L8, e8, r8, f8⟩ := r7.duel hk' hi
      have e6 : mX11_turn 100 (nI k) (nI i) (0 : Int32) (hk σ I5 L5) = _ := e6
      have e7 : mX11_turn 100 (nI k) (nI i) (1 : Int32) (hk σ I6 L6) = _ := e7
      have f0 : FrL I L I8 L8 := ((f5.tr f6.fL).tr f7.fL).tr f8
      have d2 : decide (i = 0) = true ∨ decide (i = 0) = false := by cases decide (i = 0) <;> simp
      rcases turn_cases hW hm hi with ⟨q1, q2⟩ | ⟨g, q1, q2, q3, q4, so, so1, q5, q6, q7⟩
      · rw [q1] at e6 e7
        have e6 : mX11_turn 100 (nI k) (nI i) (0 : Int32) (hk σ I5 L5) = some (-2, hk σ I6 L6) := e6
        have e7 : mX11_turn 100 (nI k) (nI i) (1 : Int32) (hk σ I6 L6) = some (-2, hk σ I7 L7) := e7
        refine ⟨(nI (i + 1), hk σ I8 L8), ?_, I8, L8, a', P', rfl, f0, r8⟩
        show mL_judged_l407f 99 (nI k) (nI i) (hk σ I5 L5) = _
        unfold mL_judged_l407f
        rw [show (2 : Int32) = nI 2 from rfl, c_lt hi (by omega), gX h.1, e6, b2s, gX h.1, e7, b2s, gX h.1, e8, b2s, if_pos (by decide), q2]
        unfold mL_judged_b461
        have eb : bI (!decide (i = 0)) = nI i := by rcases (show i = 0 ∨ i = 1 by omega) with rfl | rfl <;> rfl
        rw [if_pos eb]
        unfold mL_judged_b473
        rw [if_pos rfl, if_pos (by decide)]
        unfold mL_judged_b486
        rw [if_pos (by decide)]
        unfold mL_judged_b496
        rw [if_pos rfl, if_pos (by decide)]
        unfold mL_judged_b544
        rw [nI_1]
      · rw [q1] at e6 e7
        have e6 : mX11_turn 100 (nI k) (nI i) (0 : Int32) (hk σ I5 L5) = some (nI g, hk σ I6 L6) := e6
        have e7 : mX11_turn 100 (nI k) (nI i) (1 : Int32) (hk σ I6 L6) = some (nI (if ch T N (dv T N k i) (decide (i = 0)) (0 + 1 * 3 ^ g) = true then 0 else 1), hk σ I7 L7) := e7
        rw [q5] at e7
        rw [q4] at e8
        have hM : ∀ how, (how = 1 ∨ how = 4) → MK T N g how so := fun how hh => ⟨q2, w1, q3, hh, so1⟩
        obtain ⟨v, I9, L9, e9, f9, q9⟩ := l_makes r8 q2 (show so < 2 by omega) q3
        have sl := sme_lv (hM 1 (Or.inl rfl))
        rcases q9 with ⟨_, _, z⟩ | ⟨rfl, how, hh, _, r9⟩
        · rw [sl, q6] at z; cases z
        · have hkM : k < mkn N g how so 18 := by rw [mkn_hi (by omega) (by omega)]; exact hk'
          obtain ⟨Ia, La, ea, ra, fa⟩ := r9.duel hkM (show 1 - i < 2 by omega)
          have dm := dv_mk0 (k := k) (hM how hh) (show i ≤ 1 by omega)
          rw [dm, q7] at ea
          obtain ⟨Ib, eb, fb, rb⟩ := l_taken1 ra a16
          have eb : mL_taken 99 (1 : Int32) (hk σ Ia La) = some (1, hk σ Ib La) := eb
          refine ⟨(nI (i + 1), hk σ Ib La), ?_, Ib, La, _, _, rfl, ((f0.tr f9).tr fa).tr fb, rb⟩
          show mL_judged_l407f 99 (nI k) (nI i) (hk σ I5 L5) = _
          unfold mL_judged_l407f
          rw [show (2 : Int32) = nI 2 from rfl, c_lt hi (by omega), gX h.1, e6, b2s, gX h.1, e7, b2s, gX h.1, e8, b2s, if_neg (nI_pos (by omega))]
          unfold mL_judged_b461
          have en : ¬ bI (decide (i = 0)) = nI i := by rcases (show i = 0 ∨ i = 1 by omega) with rfl | rfl <;> decide
          rw [if_neg en]
          unfold mL_judged_b473
          rw [if_pos rfl, if_neg (nI_pos (by omega))]
          unfold mL_judged_b486
          rw [if_neg (nI_pos (by omega))]
          unfold mL_judged_b496
          have e1i : (1 : Int32) - nI i = nI (1 - i) := nI_sub (a := 1) (by omega)
          rw [if_pos rfl, if_neg (nI_pos (by omega)), e9, b2s, if_neg (by decide), gX h.1, e1i, ea, b2s, if_pos rfl, eb, b2s, if_neg (by decide)]
          unfold mL_judged_b544
          rw [nI_1])
    (fun st hQ => by
      obtain ⟨I5, L5, a', P', rfl, f5, r5⟩ := hQ
      obtain ⟨I6, L6, e6, f6, a6, P6, n6, hn6, r6⟩ := l_proved r5 (by omega) hk' true (mix_both hm true)
      obtain ⟨I7, L7, e7, f7, a7, P7, n7, hn7, r7⟩ := l_proved r6 (by omega) hk' false (mix_both hm false)
      have e6 : mL_proved 99 (nI k) (1 : Int32) (hk σ I5 L5) = some (1, hk σ I6 L6) := e6
      have e7 : mL_proved 99 (nI k) (0 : Int32) (hk σ I6 L6) = some (1, hk σ I7 L7) := e7
      refine ⟨(1, hk σ I7 L7), ?_, I7, L7, rfl, (f5.tr f6).tr f7, a7, P7, n7, by omega, r7⟩
      show mL_judged_l407f 99 (nI k) (nI 2) (hk σ I5 L5) = _
      unfold mL_judged_l407f
      rw [if_neg (by decide), e6, b2s, if_neg (by decide), e7, b2s, if_neg (by decide), xts]) (s := (nI 0, hk σ I L)) ⟨I, L, a, P, rfl, FrL.rf, h⟩
  exact ⟨I5, L5, e, f5, r5⟩
/-- the first trial, made and undone -/
theorem l_j329 (h : RB σ I L T N a P K Q n) (hn : n < 90000000) (hk' : k < N 18) (hm : mix T N k 0 = true) {f : Nat} (hf : f < T 1) (hkn : kn N f = false) (hb : max (btr T N k (1 * 3 ^ f)) (btr T N k (2 * 3 ^ f)) + 1 = btr T N k 0) :
    ∃ I1 L1, mL_judged_l329 99 (nI k) (nI f) (nI (btr T N k 0)) (0 : Int32) (0 : Int32) (hk σ I L) = some (1, hk σ I1 L1) ∧ FrL I L I1 L1 ∧ RN σ I1 L1 T N K Q (n + 2) := by
  obtain ⟨w1, w18, w16, n16, hW, hE⟩ := h.b
  have bl : btr T N k 0 ≤ 9 := btr_le (p3_pos _)
  obtain ⟨mx, hmx⟩ : ∃ mx : Nat → Nat, mx = fun i => if i = 0 then 0 else if i = 1 then btr T N k (1 * 3 ^ f) else max (btr T N k (1 * 3 ^ f)) (btr T N k (2 * 3 ^ f)) := ⟨_, rfl⟩
  have mxs : ∀ i, i < 2 → max (mx i) (btr T N k ((1 + i) * 3 ^ f)) = mx (i + 1) := fun i hi => by
    rw [hmx]
    rcases (show i = 0 ∨ i = 1 by omega) with rfl | rfl
    · show max 0 _ = _; rw [Nat.zero_max]; rfl
    · rfl
  unfold mL_judged_l329
  obtain ⟨o, e, I5, L5, rfl, f5, r5⟩ := lp_inv (f := fun s : (Int32 × Int32 × Hp) => mL_judged_l329f 99 (nI k) (nI f) (nI (btr T N k 0)) s.1 s.2.1 s.2.2) 2
    (fun i st => ∃ I5 L5 a' P', st = (nI (mx i), nI i, hk σ I5 L5) ∧ FrL I L I5 L5 ∧ RB σ I5 L5 T N a' P' K Q n ∧ mx i ≤ 9)
    (fun o => ∃ I5 L5, o = (1, hk σ I5 L5) ∧ FrL I L I5 L5 ∧ RN σ I5 L5 T N K Q (n + 2))
    (fun i st hi hQ => by
      obtain ⟨I5, L5, a', P', rfl, f5, r5, m9⟩ := hQ
      have a16 : a' ≤ 16 := r5.b.2.2.1
      have hM : ∀ how, (how = 1 ∨ how = 4) → MK T N f how i := fun how hh => ⟨hf, w1, hkn, hh, by omega⟩
      have hlt : (1 + i) * 3 ^ f < 3 ^ T 1 := by
        have := put_lt (p3_pos (T 1)) hf (dg_00 f) (d := 1 + i) (by omega)
        rw [Nat.zero_add] at this; exact this
      have b9 : btr T N k ((1 + i) * 3 ^ f) ≤ 9 := btr_le hlt
      have ms := mxs i hi
      obtain ⟨v, I9, L9, e9, f9, q9⟩ := l_makes r5 hf hi hkn
      rcases q9 with ⟨rfl, r9, z⟩ | ⟨rfl, how, hh, _, r9⟩
      · rw [sme_lv (hM 1 (Or.inl rfl))] at z
        have zb : btr T N k ((1 + i) * 3 ^ f) = 0 := btr_none hlt (by
          unfold lv at z
          have := of_decide_eq_false z
          omega)
        rw [zb, Nat.max_zero] at ms
        refine ⟨_, ?_, I9, L9, a', P', rfl, f5.tr f9, r9, by rw [← ms]; exact m9⟩
        show mL_judged_l329f 99 (nI k) (nI f) (nI (btr T N k 0)) (nI (mx i)) (nI i) (hk σ I5 L5) = _
        unfold mL_judged_l329f mL_judged_b374
        rw [show (2 : Int32) = nI 2 from rfl, c_lt hi (by omega), e9, b2s, if_pos rfl, nI_1, ← ms]
      · have hkM : k < mkn N f how i 18 := by rw [mkn_hi (by omega) (by omega)]; exact hk'
        obtain ⟨Ia, La, ea, ra, fa⟩ := r9.tries0 hkM
        rw [btr_mk0 (hM how hh)] at ea
        obtain ⟨Ib, eb, fb, rb⟩ := l_taken1 ra a16
        have eb : mL_taken 99 (1 : Int32) (hk σ Ia La) = some (1, hk σ Ib La) := eb
        refine ⟨_, ?_, Ib, La, _, _, rfl, ((f5.tr f9).tr fa).tr fb, rb, by rw [← ms]; omega⟩
        show mL_judged_l329f 99 (nI k) (nI f) (nI (btr T N k 0)) (nI (mx i)) (nI i) (hk σ I5 L5) = _
        unfold mL_judged_l329f mL_judged_b374
        rw [show (2 : Int32) = nI 2 from rfl, c_lt hi (by omega), e9, b2s, if_neg (by decide), gX h.1, ea, b2s, eb, b2s, if_neg (by decide), max_d (by omega) (by omega), ms, nI_1])
    (fun st hQ => by
      obtain ⟨I5, L5, a', P', rfl, f5, r5, m9⟩ := hQ
      obtain ⟨I6, L6, e6, f6, r6⟩ := l_j407 r5 hn hk' hm
      refine ⟨(1, hk σ I6 L6), ?_, I6, L6, rfl, f5.tr f6, r6⟩
      show mL_judged_l329f 99 (nI k) (nI f) (nI (btr T N k 0)) (nI (mx 2)) (nI 2) (hk σ I5 L5) = _
      have em : nI (mx 2) = nI (btr T N k 0) - 1 := by
        rw [nI_s1 (by omega), hmx]
        show nI (max (btr T N k (1 * 3 ^ f)) (btr T N k (2 * 3 ^ f))) = _
        congr 1; omega
      have ef : mX11_fact 100 (nI f) (2 : Int32) (hk σ I5 L5) = some 2 := by
        have := c_fact r5.2.1.1 hf (show 2 < 4 by omega)
        unfold faV at this
        rw [if_neg (by omega), if_neg (by omega), if_pos rfl, hkn, if_neg (by decide)] at this
        exact this
      unfold mL_judged_l329f
      rw [if_neg (by decide), if_pos em, gX h.1, ef, obind, if_pos rfl, e6, xts]) (s := (nI 0, nI 0, hk σ I L)) ⟨I, L, a, P, by rw [hmx]; rfl, FrL.rf, h, by rw [hmx]; exact Nat.zero_le _⟩
  exact ⟨I5, L5, e, f5, r5⟩
/-- judged -/
theorem l_judged (h : RB σ I L T N a P K Q n) (hn : n < 90000000) (hk' : k < N 18) :
    ∃ I1 L1, mL_judged 99 (nI k) (hk σ I L) = some (1, hk σ I1 L1) ∧ FrL I L I1 L1 ∧ RN σ I1 L1 T N K Q (n + 2) := by
  obtain ⟨w1, w18, w16, n16, hW, hE⟩ := h.b
  obtain ⟨I1, L1, e1, r1, f1⟩ := h.how hk'
  obtain ⟨v2, I2, L2, e2, f2, _, q2⟩ := c_tries r1.2.1.1 r1.2.1.2.2.2 hk' (show 1 < 2 by omega)
  have r2 := r1.q f2
  have q2 := q2 rfl
  have e2 : mX11_tries 100 (nI k) (1 : Int32) (hk σ I1 L1) = some (v2, hk σ I2 L2) := e2
  obtain ⟨I3, L3, e3, r3, f3⟩ := r2.tries0 hk'
  have g3 : gI 15 3 99 (hk σ I3 L3) = some (nI (T 1)) := by rw [gI_ok (s99 h.1), hpI_hk, r3.2.2.1]
  obtain ⟨I4, L4, e4, r4, f4⟩ := r3.cnt (show 6 < 8 by omega)
  have e4 : mX11_count 100 (6 : Int32) (hk σ I3 L3) = some (nI (pc (knF N)), hk σ I4 L4) := e4
  obtain ⟨I5, L5, e5, r5, f5⟩ := r4.chance hk' (show 0 < 2 by omega)
  have e5 : mX11_chance 100 (nI k) (0 : Int32) (hk σ I4 L4) = some (nI (ch0 T N k), hk σ I5 L5) := e5
  obtain ⟨I6, L6, e6, r6, f6⟩ := r5.chance hk' (show 1 < 2 by omega)
  have e6 : mX11_chance 100 (nI k) (1 : Int32) (hk σ I5 L5) = some (nI (ch1 T N k), hk σ I6 L6) := e6
  obtain ⟨I7, L7, e7, r7, f7⟩ := r6.chance hk' (show 0 < 2 by omega)
  have e7 : mX11_chance 100 (nI k) (0 : Int32) (hk σ I6 L6) = some (nI (ch0 T N k), hk σ I7 L7) := e7
  obtain ⟨I8, L8, e8, r8, f8⟩ := r7.issues hk'
  have f0 : FrL I L I8 L8 := ((((((f1.tr f2.fL).tr f3).tr f4).tr f5).tr f6).tr f7).tr f8
  obtain ⟨cb1, cb2, cb3, _⟩ := ch_b (k := k) hW hE.1
  have bf := btr_fre (N := N) (k := k) hW
  have p8 := pc_le (fre T N)
  have un := unk_n hW hE.1
  have ce : (nI (ch0 T N k) = nI (ch1 T N k)) = (ch0 T N k = ch1 T N k) := nI_eq' (by omega) (by omega)
  have cz : (nI (ch0 T N k) = 0) = (ch0 T N k = 0) := nI_eq' (b := 0) (by omega) (by omega)
  unfold mL_judged
  rw [if_pos (s99 h.1), gX h.1, e1, b2s, gX h.1, e2, b2s, gX h.1, e3, b2s, g3, obind, gX h.1, e4, b2s, gX h.1, e5, b2s, gX h.1, e6, b2s, un]
  have sure : ∀ wn, (∀ w, w < 256 → lft T N w = true → won T (it N k 0) w = wn) → mix T N k 0 = false → how3 (lft T N) (won T (it N k 0)) = bI wn →
      ∃ I1 L1, (if nI (ch0 T N k) = nI (ch1 T N k) then mL_judged_b72 99 (nI k) (how3 (lft T N) (won T (it N k 0))) v2 (nI (btr T N k 0)) (nI (pc (fre T N))) (1 : Int32) (hk σ I6 L6) else mL_judged_b72 99 (nI k) (how3 (lft T N) (won T (it N k 0))) v2 (nI (btr T N k 0)) (nI (pc (fre T N))) (0 : Int32) (hk σ I6 L6)) = some (1, hk σ I1 L1) ∧ FrL I L I1 L1 ∧ RN σ I1 L1 T N K Q (n + 2) := fun wn hall hmx hh => by
    have bz := btr_0 (N := N) hW hmx
    have v2e : v2 = -2 := by
      rcases q2 with ⟨_, q⟩ | ⟨q, _⟩
      · exact q
      · exact absurd bz q
    have iz := iss_0 hW hall
    rw [iz] at e8
    obtain ⟨I9, L9, e9, r9, f9⟩ := l_jsure r8 hk' wn hall
    refine ⟨I9, L9, ?_, f0.tr f9, _, _, n, by omega, r9⟩
    rw [hh, bz, v2e, c_eqd (show ch0 T N k < 2147483648 by omega) (show ch1 T N k < 2147483648 by omega)]
    cases wn
    · have p0 := pW_0 hW hall
      have c0 := (ch_0 (k := k) hW hE.1).mpr p0
      rw [if_neg (show ¬ bI false = 1 by decide)] at e9
      rw [if_neg (by omega)]
      unfold mL_judged_b72
      rw [gX h.1, e7, b2s, c_0 (show ch0 T N k < 2147483648 by omega), if_pos c0]
      unfold mL_judged_b91
      rw [if_neg (show ¬ bI false = 1 by decide)]
      unfold mL_judged_b103
      rw [if_pos rfl, if_pos (show bI false = 0 from rfl)]
      unfold mL_judged_b117
      rw [if_pos rfl, if_neg (show ¬ bI false = 2 by decide)]
      unfold mL_judged_b132
      rw [if_pos (show nI 0 = 0 from rfl)]
      unfold mL_judged_b142
      rw [if_neg (by decide), if_neg (nI_nlt (Nat.zero_le _) (by omega)), if_neg (show ¬ bI false = 2 by decide)]
      unfold mL_judged_b162
      rw [if_pos (by decide)]
      unfold mL_judged_b171
      rw [if_pos rfl, if_neg (show ¬ bI false = 2 by decide)]
      unfold mL_judged_b184
      rw [gX h.1, e8, b2s, if_pos (show nI 0 = 0 from rfl), if_neg (by decide)]
      unfold mL_judged_b205
      rw [if_pos rfl, if_neg (show ¬ bI false = 2 by decide), gX h.1, if_neg (show ¬ bI false = 1 by decide)]
      exact e9
    · have p0 := pW_all hall
      have c0 := (ch_eq (k := k) hW hE.1).mpr p0
      rw [if_pos (show bI true = 1 from rfl)] at e9
      rw [if_pos c0]
      unfold mL_judged_b72
      rw [gX h.1, e7, b2s, c_0 (show ch0 T N k < 2147483648 by omega), if_neg (by omega)]
      unfold mL_judged_b91
      rw [if_pos (show bI true = 1 from rfl)]
      unfold mL_judged_b103
      rw [if_pos rfl, if_neg (show ¬ bI true = 0 by decide)]
      unfold mL_judged_b117
      rw [if_pos rfl, if_neg (show ¬ bI true = 2 by decide)]
      unfold mL_judged_b132
      rw [if_pos (show nI 0 = 0 from rfl)]
      unfold mL_judged_b142
      rw [if_neg (by decide), if_neg (nI_nlt (Nat.zero_le _) (by omega)), if_neg (show ¬ bI true = 2 by decide)]
      unfold mL_judged_b162
      rw [if_pos (by decide)]
      unfold mL_judged_b171
      rw [if_pos rfl, if_neg (show ¬ bI true = 2 by decide)]
      unfold mL_judged_b184
      rw [gX h.1, e8, b2s, if_pos (show nI 0 = 0 from rfl), if_neg (by decide)]
      unfold mL_judged_b205
      rw [if_pos rfl, if_neg (show ¬ bI true = 2 by decide), gX h.1, if_pos (show bI true = 1 from rfl)]
      exact e9
  rcases how_cases (k := k) hE.1 with ⟨hh, hc, hmx⟩ | ⟨hh, hc, hmx⟩ | ⟨hh, hmx⟩
  · refine sure true (fun w hw hl => ?_) hmx hh
    unfold how3 at hh
    by_cases q : allB (fun w => !lft T N w || won T (it N k 0) w) 256 = true
    · have := allB_iff.mp q w hw
      rw [hl] at this; exact this
    · rw [if_neg q] at hh
      split at hh
      · cases hh
      · cases hh
  · refine sure false (fun w hw hl => ?_) hmx hh
    rw [cn_0, cntB_0] at hc
    cases q : won T (it N k 0) w
    · rfl
    · rw [anyB_iff.mpr ⟨w, hw, by unfold lw; rw [hl, q]; rfl⟩] at hc; cases hc
  · obtain ⟨f, g1, g2, g3', g4⟩ := ftr_ok (k := k) hW hmx
    have bp := btr_pos (k := k) hmx
    have v2e : v2 = nI f := by
      rcases q2 with ⟨q, _⟩ | ⟨_, f', q1, q⟩
      · omega
      · rw [g1] at q1; rw [q, Option.some.inj q1]
    have p1 := pW_pos hW (mix_both hmx true)
    have p2 := pW_lt hW (mix_both hmx false)
    have c1 : ¬ ch0 T N k = ch1 T N k := fun q => by have := (ch_eq (k := k) hW hE.1).mp q; omega
    have c2 : ¬ ch0 T N k = 0 := fun q => by have := (ch_0 (k := k) hW hE.1).mp q; omega
    obtain ⟨I9, L9, e9, f9, r9⟩ := l_j329 r8 hn hk' hmx g2 g3' g4
    refine ⟨I9, L9, ?_, f0.tr f9, r9⟩
    rw [hh, v2e, c_eqd (show ch0 T N k < 2147483648 by omega) (show ch1 T N k < 2147483648 by omega), if_neg c1]
    have b205 : mL_judged_b205 99 (nI k) (2 : Int32) (nI f) (nI (btr T N k 0)) (1 : Int32) (1 : Int32) (hk σ I8 L8) = some (1, hk σ I9 L9) := by
      unfold mL_judged_b205
      rw [if_pos rfl, if_pos rfl]; exact e9
    unfold mL_judged_b72
    rw [gX h.1, e7, b2s, c_0 (show ch0 T N k < 2147483648 by omega), if_neg c2]
    unfold mL_judged_b91
    rw [if_neg (by decide)]
    unfold mL_judged_b103
    rw [if_pos rfl, if_neg (by decide)]
    unfold mL_judged_b117
    rw [if_pos rfl, if_pos rfl]
    unfold mL_judged_b132
    rw [if_neg (nI_ne0 (by omega) (by omega))]
    unfold mL_judged_b142
    rw [if_neg (by decide), if_neg (nI_nlt bf (by omega)), if_pos rfl]
    unfold mL_judged_b162
    rw [if_neg (nI_pos (by omega))]
    unfold mL_judged_b171
    rw [if_pos rfl, if_pos rfl]
    unfold mL_judged_b184
    rw [gX h.1, e8, b2s, if_pos (show (0 : Int32) < nI (btr T N k 0) from nI_lt (a := 0) bp (by omega))]
    unfold mL_judged_b200
    rw [b205]
    split <;> rfl
end E5
