section E8
variable {σ σ' : Sg} {I I' I1 I2 : Nat → Nat → Int32} {L L' L1 L2 : Nat → Nat → Int64} {T N M : Nat → Nat} {u F n : Nat} {P : Nat → Nat → Nat} {K : Nat → Bool} {Q : Nat → Nat → Nat}
theorem sm_gle {g g' : Nat → Nat} {p : Nat → Bool} : ∀ {n}, (∀ w, w < n → p w = true → g w ≤ g' w) → sm g p n ≤ sm g' p n
  | 0, _ => Nat.le_refl _
  | n + 1, h => by
    have ih := sm_gle (n := n) fun w hw => h w (by omega)
    rw [smS, smS]
    split
    · rename_i hp
      have := h n (by omega) hp
      omega
    · exact ih
theorem sm_sortG {T N : Nat → Nat} (g : Nat → Nat) : ∀ n, n ≤ 256 → sm (fun w => sm g (lk T N w) n) (isF T N) 256 = sm g (lft T N) n
  | 0, _ => sm_0 fun w _ _ => rfl
  | n + 1, hn => by
    have ih := sm_sortG (T := T) (N := N) g n (by omega)
    have e : sm (fun w => sm g (lk T N w) (n + 1)) (isF T N) 256 = sm (fun w => sm g (lk T N w) n + (if lk T N w n = true then g n else 0)) (isF T N) 256 :=
      sm_congr fun w _ _ => by rw [smS]
    rw [e, sm_add (g := fun w => sm g (lk T N w) n) (g' := fun w => (if lk T N w n = true then g n else 0)), ih, smS g (lft T N) n]
    suffices key : sm (fun w => (if lk T N w n = true then g n else 0)) (isF T N) 256 = (if lft T N n = true then g n else 0) by rw [key]
    cases hl : lft T N n
    · rw [if_neg (by decide)]
      refine sm_0 fun w _ _ => ?_
      have : lk T N w n = false := by unfold lk; rw [hl]; rfl
      rw [this, if_neg (by decide)]
    · rw [if_pos rfl]
      obtain ⟨v, v1, v2, v3⟩ := isF_ex (T := T) (N := N) (n := n) (w := n) (Nat.le_refl _) hl
      rw [sm_one (g := fun w => (if lk T N w n = true then g n else 0)) v2 (show v < 256 by omega) fun w hw hp hne => ?_]
      · show (if lk T N v n = true then g n else 0) = _
        have : lk T N v n = true := by unfold lk; rw [hl, decide_eq_true v3.symm]; rfl
        rw [this, if_pos rfl]
      · show (if lk T N w n = true then g n else 0) = 0
        have : lk T N w n = false := by
          unfold lk
          rw [decide_eq_false (fun z => hne (isF_inj hp v2 (by rw [v3, z]))), Bool.and_false]
        rw [this, if_neg (by decide)]
theorem cnt_sm (p : Nat → Bool) : ∀ n, cntB p n = sm (fun _ => 1) p n
  | 0 => rfl
  | n + 1 => by rw [cntS, smS, cnt_sm p n]
theorem cnt_sort {T N : Nat → Nat} : sm (fun w => cntB (lk T N w) 256) (isF T N) 256 = cntB (lft T N) 256 := by
  rw [cnt_sm (lft T N), ← sm_sortG (T := T) (N := N) (fun _ => 1) 256 (Nat.le_refl _)]
  exact sm_congr fun w _ _ => cnt_sm _ _
theorem ws_sb (T N : Nat → Nat) (w : Nat) : sb (ws T N w) (stnd T N) := fun i hi => by
  unfold ws at hi
  rw [bs_bit, Bool.and_eq_true, Bool.and_eq_true] at hi
  exact hi.2.1
theorem seen_sb (T N : Nat → Nat) (p : Nat → Bool) : ∀ n, sb (fo (fun s w => s ||| ws T N w) p 0 n) (stnd T N)
  | 0 => sb_0 _
  | n + 1 => by
    have ih := seen_sb T N p n
    rw [foS]
    split
    · intro i hi
      rw [Nat.testBit_or, Bool.or_eq_true] at hi
      rcases hi with q | q
      · exact ih i q
      · exact ws_sb T N n i q
    · exact ih
theorem pc_stE {b w : Nat} : pc (stE T N b w) = max (pc b) (pc (ws T N w)) := by
  unfold stE
  by_cases h1 : pc b < pc (ws T N w)
  · rw [if_pos h1]; omega
  · rw [if_neg h1]
    by_cases h2 : pc (ws T N w) = pc b
    · rw [if_pos h2]
      by_cases h3 : ws T N w < b
      · rw [if_pos h3]; omega
      · rw [if_neg h3]; omega
    · rw [if_neg h2]; omega
theorem pc_foE (p : Nat → Bool) : ∀ n, pc (fo (stE T N) p 0 n) = fo (fun s w => max s (pc (ws T N w))) p 0 n
  | 0 => by show pc 0 = 0; decide
  | n + 1 => by
    rw [foS, foS, ← pc_foE p n]
    split
    · exact pc_stE
    · rfl
theorem foM_le (p : Nat → Bool) (n : Nat) : fo (fun s w => max s (pc (ws T N w))) p 0 n ≤ 8 := by
  rw [← pc_foE]; exact pc_le _
/-- the least and the greatest award bound the mean -/
theorem mean_b {l g c : Nat} (hf : fo (stA T N) (isF T N) none 256 = some (l, g, c)) : l * aW T N ≤ mW T N ∧ mW T N ≤ g * aW T N := by
  have key : ∀ w, w < 256 → lft T N w = true → l ≤ aw T N (ws T N w) ∧ aw T N (ws T N w) ≤ g := fun w hw hl => by
    obtain ⟨v, hv, h1, h2⟩ := isF_ex (T := T) (N := N) (n := w) (w := w) (Nat.le_refl _) hl
    obtain ⟨l', g', c', q1, q2, q3⟩ : inA T N (fo (stA T N) (isF T N) none 256) v := fo_inc inA_1 inA_2 (by omega) h1
    rw [hf] at q1
    obtain ⟨rfl, rfl, rfl⟩ : l = l' ∧ g = g' ∧ c = c' := by
      have := Option.some.inj q1
      exact ⟨congrArg Prod.fst this, congrArg (fun z => z.2.1) this, congrArg (fun z => z.2.2) this⟩
    rw [h2] at q2 q3
    exact ⟨q2, q3⟩
  unfold mW aW
  rw [Nat.mul_comm l, Nat.mul_comm g, ← sm_mul (wg T) (lft T N) l 256, ← sm_mul (wg T) (lft T N) g 256]
  exact ⟨sm_gle fun w hw hl => by
    show wg T w * l ≤ aw T N (ws T N w) * wg T w
    rw [Nat.mul_comm]; exact Nat.mul_le_mul_right _ (key w hw hl).1, sm_gle fun w hw hl => by
    show aw T N (ws T N w) * wg T w ≤ wg T w * g
    rw [Nat.mul_comm]; exact Nat.mul_le_mul_left _ (key w hw hl).2⟩
theorem RB.outcome (h : RB σ I L T N u P K Q n) {i j : Nat} (hi : i < cntB (isF T N) 256) (hj : j < 3) : ∃ I1 L1, mX11_outcome 100 (nI i) (nI j) (hk σ I L) = some (nI (if j = 0 then ws T N (wi (isF T N) 256 i) else if j = 1 then cntB (lk T N (wi (isF T N) 256 i)) 256 else wi (isF T N) 256 i), hk σ I1 L1) ∧ RB σ I1 L1 T N u P K Q n ∧ FrL I L I1 L1 := by
  obtain ⟨w, I1, L1, w1, w2, w3, e, f⟩ := c_outcome h.2.1.1 hi hj
  obtain ⟨b1, b2, b3⟩ := wi_ok (p := isF T N) (n := 256) (i := i) (by omega)
  obtain ⟨b3, b4⟩ := b3 hi
  have : w = wi (isF T N) 256 i := cnt_inj w2 b4 (by rw [w3, b1])
  refine h.que ⟨I1, L1, ?_, f⟩
  rw [e, this]
  generalize wi (isF T N) 256 i = v
  by_cases q0 : j = 0
  · rw [if_pos q0, if_pos q0]
  · rw [if_neg q0, if_neg q0]
    by_cases q1 : j = 1
    · rw [if_pos q1, if_pos q1]
    · rw [if_neg q1, if_neg q1]
theorem RB.out0 (h : RB σ I L T N u P K Q n) {i : Nat} (hi : i < cntB (isF T N) 256) : ∃ I1 L1, mX11_outcome 100 (nI i) (0 : Int32) (hk σ I L) = some (nI (ws T N (wi (isF T N) 256 i)), hk σ I1 L1) ∧ RB σ I1 L1 T N u P K Q n ∧ FrL I L I1 L1 := by
  obtain ⟨I1, L1, e, r⟩ := h.outcome hi (show 0 < 3 by omega)
  rw [if_pos rfl] at e
  exact ⟨I1, L1, e, r⟩
theorem RB.out1 (h : RB σ I L T N u P K Q n) {i : Nat} (hi : i < cntB (isF T N) 256) : ∃ I1 L1, mX11_outcome 100 (nI i) (1 : Int32) (hk σ I L) = some (nI (cntB (lk T N (wi (isF T N) 256 i)) 256), hk σ I1 L1) ∧ RB σ I1 L1 T N u P K Q n ∧ FrL I L I1 L1 := by
  obtain ⟨I1, L1, e, r⟩ := h.outcome hi (show 1 < 3 by omega)
  rw [if_neg (by decide), if_pos rfl] at e
  exact ⟨I1, L1, e, r⟩
theorem RB.out2 (h : RB σ I L T N u P K Q n) {i : Nat} (hi : i < cntB (isF T N) 256) : ∃ I1 L1, mX11_outcome 100 (nI i) (2 : Int32) (hk σ I L) = some (nI (wi (isF T N) 256 i), hk σ I1 L1) ∧ RB σ I1 L1 T N u P K Q n ∧ FrL I L I1 L1 := by
  obtain ⟨I1, L1, e, r⟩ := h.outcome hi (show 2 < 3 by omega)
  rw [if_neg (by decide), if_neg (by decide)] at e
  exact ⟨I1, L1, e, r⟩
theorem RB.queG {α : Type} {v : α} {m : Option (α × Hp)} (h : RB σ I L T N u P K Q n) (e : ∃ I1 L1, m = some (v, hk σ I1 L1) ∧ FrC I L I1 L1) : ∃ I1 L1, m = some (v, hk σ I1 L1) ∧ RB σ I1 L1 T N u P K Q n ∧ FrL I L I1 L1 := by
  obtain ⟨I1, L1, e1, f1⟩ := e
  exact ⟨I1, L1, e1, h.q f1, f1.fL⟩
theorem l_p114 (h : RB σ I L T N u P K Q n) {i : Nat} (hi : i < cntB (isF T N) 256) (x1 x2 x3 x4 x5 : Int32) :
    ∃ I1 L1, mL_paid_l114 99 x1 x2 x3 x4 x5 (nI i) (nI (ws T N (wi (isF T N) 256 i))) 0 (hk σ I L) = some (.inl (x1, x2, x4, x5, nI (i + 1), hk σ I1 L1)) ∧ RB σ I1 L1 T N u P K Q n ∧ FrL I L I1 L1 := by
  have cl := cntB_le (isF T N) 256
  obtain ⟨w1, w18, w16, n16, hW, hE⟩ := h.b
  unfold mL_paid_l114
  obtain ⟨o, e, I1, L1, rfl, r1, f1⟩ := lp_inv (f := fun s : (Int32 × Hp) => mL_paid_l114f 99 x1 x2 x3 x4 x5 (nI i) (nI (ws T N (wi (isF T N) 256 i))) s.1 s.2) i
    (fun j st => ∃ I1 L1, st = (nI j, hk σ I1 L1) ∧ RB σ I1 L1 T N u P K Q n ∧ FrL I L I1 L1)
    (fun o => ∃ I1 L1, o = .inl (x1, x2, x4, x5, nI (i + 1), hk σ I1 L1) ∧ RB σ I1 L1 T N u P K Q n ∧ FrL I L I1 L1)
    (fun j st hj hQ => by
      obtain ⟨I1, L1, rfl, r1, f1⟩ := hQ
      obtain ⟨I2, L2, e2, r2, f2⟩ := r1.out0 (show j < cntB (isF T N) 256 by omega)
      refine ⟨_, ?_, I2, L2, rfl, r2, f1.tr f2⟩
      show mL_paid_l114f 99 x1 x2 x3 x4 x5 (nI i) (nI (ws T N (wi (isF T N) 256 i))) (nI j) (hk σ I1 L1) = _
      unfold mL_paid_l114f
      have ne : ¬ ws T N (wi (isF T N) 256 j) = ws T N (wi (isF T N) 256 i) := fun q => by
        obtain ⟨a1, _, a3⟩ := wi_ok (p := isF T N) (n := 256) (i := i) (by omega)
        obtain ⟨b1, _, b3⟩ := wi_ok (p := isF T N) (n := 256) (i := j) (by omega)
        have := isF_inj (b3 (by omega)).2 (a3 hi).2 q
        rw [this, a1] at b1
        omega
      have l1 := ws_lt (T := T) w18 (wi (isF T N) 256 i)
      have l2 := ws_lt (T := T) w18 (wi (isF T N) 256 j)
      rw [c_lt hj (by omega), gX h.1, e2, b2s, c_eqd (by omega) (by omega), if_neg ne, nI_1])
    (fun st hQ => by
      obtain ⟨I1, L1, rfl, r1, f1⟩ := hQ
      refine ⟨_, ?_, I1, L1, rfl, r1, f1⟩
      show mL_paid_l114f 99 x1 x2 x3 x4 x5 (nI i) (nI (ws T N (wi (isF T N) 256 i))) (nI i) (hk σ I1 L1) = _
      unfold mL_paid_l114f
      rw [c_nlt (Nat.le_refl _) (by omega), xts, nI_1])
    (s := (nI 0, hk σ I L)) ⟨I, L, rfl, h, fun x _ => ⟨rfl, rfl⟩⟩
  exact ⟨I1, L1, e, r1, f1⟩
/-- what stands together stands in parts -/
theorem tg_sub {X Y : Nat} (h : sb Y X) (ht : anyB (tg T N X (N 18)) 256 = true) : anyB (tg T N Y (N 18)) 256 = true := by
  obtain ⟨w, hw, h1⟩ := anyB_iff.mp ht
  refine anyB_iff.mpr ⟨w, hw, ?_⟩
  unfold tg at h1 ⊢
  rw [Bool.and_eq_true] at h1 ⊢
  refine ⟨h1.1, allB_iff.mpr fun c hc => ?_⟩
  have := allB_iff.mp h1.2 c hc
  cases q : Y.testBit c
  · rfl
  · rw [h c q] at this; exact this
theorem tg_ws {w : Nat} (hw : w < 256) (hl : lft T N w = true) : anyB (tg T N (ws T N w) (N 18)) 256 = true := by
  refine anyB_iff.mpr ⟨w, hw, ?_⟩
  unfold tg
  rw [Bool.and_eq_true]
  refine ⟨hl, allB_iff.mpr fun c hc => ?_⟩
  unfold ws
  rw [bs_bit]
  cases q : won T (it N c 0) w
  · rw [Bool.and_false, Bool.and_false]; rfl
  · rw [Bool.or_true]
/-- the last of what is asked of awards -/
theorem l_p156e (h : RB σ I L T N u P K Q n) (hn : n < 100000000) :
    ∃ I1 L1, mL_paid_l156f 99 (nI (cntB (lft T N) 256)) (nI (fo (fun s w => s ||| ws T N w) (isF T N) 0 256)) (nI (fo (fun s w => max s (pc (ws T N w))) (isF T N) 0 256)) (nI (stnd T N)) (nI (N 18)) (hk σ I L) = some (.inr (1, hk σ I1 L1)) ∧ FrL I L I1 L1 ∧ RB σ I1 L1 T N u P K Q (n + 2) := by
  obtain ⟨w1, w18, w16, n16, hW, hE⟩ := h.b
  have hN := hE.1
  have ap := all_pos hW hN
  have p18 : 2 ^ N 18 ≤ 256 := ev_lt w18
  have sl : stnd T N < 256 := Nat.lt_of_lt_of_le (bs_lt _ _) p18
  have ss := seen_sb T N (isF T N) 256
  have sl2 := sb_le ss
  have ml := foM_le (T := T) (N := N) (isF T N) 256
  have pe := pc_foE (T := T) (N := N) (isF T N) 256
  have eb := stE_b (T := T) w18 (isF T N) 256
  obtain ⟨I1, L1, e1, r1, f1⟩ := h.cnt (show 2 < 8 by omega)
  have e1 : mX11_count 100 (2 : Int32) (hk σ I L) = some (nI (N 18), hk σ I1 L1) := e1
  obtain ⟨I2, L2, e2, r2, f2⟩ := r1.queG (c_meant r1.2.1.1 (show 0 < 2 by omega))
  obtain ⟨I3, L3, e3, r3, f3⟩ := r2.queG (c_meant r2.2.1.1 (show 1 < 2 by omega))
  obtain ⟨m0, hm0⟩ : ∃ m, m = mW T N / Nat.gcd (aW T N) (mW T N) := ⟨_, rfl⟩
  obtain ⟨m1, hm1⟩ : ∃ m, m = aW T N / Nat.gcd (aW T N) (mW T N) := ⟨_, rfl⟩
  have e2 : mX11_meant 100 (0 : Int32) (hk σ I1 L1) = some (lN m0, hk σ I2 L2) := by rw [hm0]; exact e2
  have e3 : mX11_meant 100 (1 : Int32) (hk σ I2 L2) = some (lN m1, hk σ I3 L3) := by rw [hm1]; exact e3
  have gp : 0 < Nat.gcd (aW T N) (mW T N) := Nat.gcd_pos_of_pos_left _ ap
  have x0 : mW T N = m0 * Nat.gcd (aW T N) (mW T N) := by rw [hm0]; exact (Nat.div_mul_cancel (Nat.gcd_dvd_right _ _)).symm
  have x1 : aW T N = m1 * Nat.gcd (aW T N) (mW T N) := by rw [hm1]; exact (Nat.div_mul_cancel (Nat.gcd_dvd_left _ _)).symm
  obtain ⟨l, g, c, I5, L5, hf, ea, fa⟩ := c_award r3.2.1.1 (show 0 < 3 by omega)
  have fin := stA_b hW hN (isF T N) 256
  rw [hf] at fin
  obtain ⟨fl, fg⟩ : l ≤ 4995 ∧ g ≤ 4995 := fin
  obtain ⟨q0, q1⟩ := mean_b hf
  have lm : l * m1 ≤ m0 := by
    refine Nat.le_of_mul_le_mul_right ?_ gp
    rw [Nat.mul_assoc, ← x1, ← x0]; exact q0
  have mg : m0 ≤ g * m1 := by
    refine Nat.le_of_mul_le_mul_right ?_ gp
    rw [Nat.mul_assoc, ← x1, ← x0]; exact q1
  have m1p : 0 < m1 := Nat.pos_of_ne_zero fun z => by
    rw [z, Nat.zero_mul] at x1
    have : 0 < aW T N := ap
    omega
  have ab : aW T N ≤ 11019960576 := sm_b hW (lft T N) (n := 256) (Nat.le_refl _)
  have m1b : m1 ≤ 11019960576 := Nat.le_trans (by rw [x1]; exact Nat.le_mul_of_pos_right _ gp) ab
  have m0c : m0 ≤ 4995 * m1 := Nat.le_trans mg (Nat.mul_le_mul_right _ fg)
  have dq : Rr (FP.ddiv (FP.l2d (lN m0)) (FP.l2d (lN m1))) m0 m1 2 := by
    have t0 := (Ex.l (C := m0) (by omega)).rr
    have t1 := Ex.l (C := m1) (by omega)
    have := t0.div t1 m1p (Nat.le_trans (show m0 ≤ 4995 * 11019960576 by omega) (by decide)) (Nat.le_trans (by decide : 1 ≤ 2 ^ 64) (Nat.pow_le_pow_right (by omega) (by omega))) (by omega) (Nat.le_trans m1b (by decide))
    rw [Nat.one_mul] at this; exact this
  obtain ⟨I4, L4, e4, r4, f4⟩ := r3.que (c_worlds1 r3.2.1.1 |>.elim fun L' z => ⟨I3, L', z⟩)
  obtain ⟨I5, L5, e5, r5, f5⟩ := r4.cnt (show 3 < 8 by omega)
  have e5 : mX11_count 100 (3 : Int32) (hk σ I4 L4) = some (nI (pc (stnd T N)), hk σ I5 L5) := e5
  obtain ⟨I6, L6, e6, r6, f6⟩ := r5.que (c_elect r5.2.1.1 (show 0 < 2 by omega))
  have e6 : mX11_elect 100 (0 : Int32) (hk σ I5 L5) = some (nI (pc (fo (stE T N) (isF T N) 0 256)), hk σ I6 L6) := e6
  obtain ⟨I7, L7, e7, r7, f7⟩ := r6.que (c_elect r6.2.1.1 (show 1 < 2 by omega))
  have e7 : mX11_elect 100 (1 : Int32) (hk σ I6 L6) = some (nI (fo (stE T N) (isF T N) 0 256), hk σ I7 L7) := e7
  obtain ⟨I8, L8, e8, r8, f8⟩ : ∃ I1 L1, mX11_award 100 (0 : Int32) (hk σ I7 L7) = some (nI l, hk σ I1 L1) ∧ RB σ I1 L1 T N u P K Q n ∧ FrL I7 L7 I1 L1 := by
    obtain ⟨l', g', c', I8, L8, hf', e8, f8⟩ := c_award r7.2.1.1 (show 0 < 3 by omega)
    rw [hf] at hf'
    have : l = l' := congrArg Prod.fst (Option.some.inj hf')
    exact r7.que ⟨I8, L8, by rw [this]; exact e8, f8⟩
  obtain ⟨I9, L9, e9, r9, f9⟩ : ∃ I1 L1, mX11_award 100 (1 : Int32) (hk σ I8 L8) = some (nI g, hk σ I1 L1) ∧ RB σ I1 L1 T N u P K Q n ∧ FrL I8 L8 I1 L1 := by
    obtain ⟨l', g', c', I8, L8, hf', e8, f8⟩ := c_award r8.2.1.1 (show 1 < 3 by omega)
    rw [hf] at hf'
    have : g = g' := congrArg (fun z => z.2.1) (Option.some.inj hf')
    exact r8.que ⟨I8, L8, by rw [this]; exact e8, f8⟩
  obtain ⟨Ia, La, ea', ra, fa'⟩ := r9.que (c_worlds1 r9.2.1.1 |>.elim fun L' z => ⟨I9, L', z⟩)
  obtain ⟨Ib, Lb, eb', rb, fb'⟩ := ra.que ⟨Ia, La, c_worlds0 ra.2.1.1, FrC.rf⟩
  obtain ⟨Ic, Lc, ec, rc, fc⟩ := rb.que (c_worlds1 rb.2.1.1 |>.elim fun L' z => ⟨Ib, L', z⟩)
  obtain ⟨Id, Ld, ed, rd, fd⟩ := rc.cnt (show 2 < 8 by omega)
  have ed : mX11_count 100 (2 : Int32) (hk σ Ic Lc) = some (nI (N 18), hk σ Id Ld) := ed
  obtain ⟨X, Ie, hX, ee, re, fe⟩ := rd.draw (by omega) (m := 2 ^ N 18) (Nat.two_pow_pos _) (by omega)
  obtain ⟨Y, Ig, hY, eg, rg, fg'⟩ := re.draw (by omega) (m := 256) (by omega) (by omega)
  have eg : mL_draw 99 (256 : Int32) (hk σ Ie Ld) = some (nI Y, hk σ Ig Ld) := eg
  obtain ⟨Ih, Lh, eh, rh, fh⟩ := rg.together hX
  have hXY : X &&& Y < 2 ^ N 18 := Nat.lt_of_le_of_lt Nat.and_le_left hX
  obtain ⟨Ij, Lj, ej, rj, fj⟩ := rh.together hXY
  have d1 : dNN (FP.ddiv (FP.l2d (lN m0)) (FP.l2d (lN m1))) = some _ := dNN_num dq.num
  obtain ⟨v1, d2, d3⟩ := lt_sub (x := FP.i2d (nI l)) (Ex.i (C := l) (by omega)).rr dq (by omega) (by omega) (by omega) (by omega)
  obtain ⟨v2, d4, d5⟩ := gt_add dq (y := FP.i2d (nI g)) (Ex.i (C := g) (by omega)).rr (by omega) (by omega) (by omega) (by omega)
  have wlt : cntB (lft T N) 256 ≤ cntB (poss T) 256 := cntB_leq fun w _ hl => by
    unfold lft agr at hl
    rw [Bool.and_eq_true] at hl
    exact hl.1
  have w1p : 1 ≤ cntB (lft T N) 256 := by
    obtain ⟨w, hw, hl⟩ := hN.2.2.2.2.2
    refine Nat.pos_of_ne_zero fun z => ?_
    rw [cntB_0, anyB_iff.mpr ⟨w, hw, hl⟩] at z; cases z
  have cp := cntB_le (poss T) 256
  have pcs := pc_le (stnd T N)
  have f0 := (((((((((((((f1.tr f2).tr f3).tr f4).tr f5).tr f6).tr f7).tr f8).tr f9).tr fa').tr fb').tr fc).tr fd).tr fe).tr fg'
  have g0 : nI (fo (fun s w => s ||| ws T N w) (isF T N) 0 256) &&& (nI (stnd T N) ^^^ (-1 : Int32)) = 0 := by
    rw [nx_not (by omega), sb_iff.mpr ss]; rfl
  unfold mL_paid_l156f
  rw [gX h.1, e1, b2s, c_nlt (Nat.le_refl _) (by omega), gX h.1, e2, b2s, gX h.1, e3, b2s, d1, obind, gX h.1, e4, b2s, if_pos rfl, if_pos g0, cbits_ok _ sl, obind, gX h.1, e5, b2s, if_pos rfl, gX h.1, e6, b2s, pe, if_pos rfl, gX h.1, e7, b2s, cbits_ok _ eb, pe, obind, if_pos rfl, gX h.1, e8, b2s, d2, obind, if_neg d3, gX h.1, e9, b2s, d4, obind, if_neg d5, gX h.1, ea', b2s, gX h.1, eb', b2s, if_neg (nI_nlt wlt (by omega)), gX h.1, ec, b2s, if_neg (show ¬ nI (cntB (lft T N) 256) < (1 : Int32) from nI_nlt (b := 1) w1p (by omega)), gX h.1, ed, b2s, shl1 (by omega), ee, b2s, eg, b2s, gX h.1, eh, b2s]
  cases q : anyB (tg T N X (N 18)) 256
  · rw [if_pos (show bI false = 0 from rfl), xts]
    exact ⟨_, _, rfl, f0.tr fh, rh⟩
  · have := tg_sub (Y := X &&& Y) (fun i hi => by rw [Nat.testBit_and, Bool.and_eq_true] at hi; exact hi.1) q
    rw [this] at ej
    rw [if_neg (show ¬ bI true = 0 by decide), gX h.1, nx_and, ej, b2s, if_pos (show bI true = 1 from rfl), xts]
    exact ⟨_, _, rfl, (f0.tr fh).tr fj, rj⟩
/-- which COUNTs stand -/
theorem l_p156 (h : RB σ I L T N u P K Q n) (hn : n < 100000000) :
    ∃ I1 L1, mL_paid_l156 99 (nI (cntB (lft T N) 256)) (nI (fo (fun s w => s ||| ws T N w) (isF T N) 0 256)) (nI (fo (fun s w => max s (pc (ws T N w))) (isF T N) 0 256)) 0 0 (hk σ I L) = some (1, hk σ I1 L1) ∧ FrL I L I1 L1 ∧ RB σ I1 L1 T N u P K Q (n + 2) := by
  obtain ⟨w1, w18, w16, n16, hW, hE⟩ := h.b
  obtain ⟨A, hA⟩ : ∃ A, A = nI (cntB (lft T N) 256) := ⟨_, rfl⟩
  obtain ⟨B, hB⟩ : ∃ B, B = nI (fo (fun s w => s ||| ws T N w) (isF T N) 0 256) := ⟨_, rfl⟩
  obtain ⟨C, hC⟩ : ∃ C, C = nI (fo (fun s w => max s (pc (ws T N w))) (isF T N) 0 256) := ⟨_, rfl⟩
  rw [← hA, ← hB, ← hC]
  unfold mL_paid_l156
  obtain ⟨o, e, I1, L1, rfl, f1, r1⟩ := lp_inv (f := fun s : (Int32 × Int32 × Hp) => mL_paid_l156f 99 A B C s.1 s.2.1 s.2.2) (N 18)
    (fun k st => ∃ I1 L1, st = (nI (bs (fun k => decide (fls T N k (it N k 4) (it N k 5) = 0)) k), nI k, hk σ I1 L1) ∧ FrL I L I1 L1 ∧ RB σ I1 L1 T N u P K Q n)
    (fun o => ∃ I1 L1, o = (1, hk σ I1 L1) ∧ FrL I L I1 L1 ∧ RB σ I1 L1 T N u P K Q (n + 2))
    (fun k st hk' hQ => by
      obtain ⟨I1, L1, rfl, f1, r1⟩ := hQ
      obtain ⟨I2, L2, e2, r2, f2⟩ := r1.cnt (show 2 < 8 by omega)
      have e2 : mX11_count 100 (2 : Int32) (hk σ I1 L1) = some (nI (N 18), hk σ I2 L2) := e2
      obtain ⟨I3, L3, e3, r3, f3⟩ := r2.why hk'
      have wl := fls_le T N k (it N k 4) (it N k 5)
      refine ⟨(nI (bs (fun k => decide (fls T N k (it N k 4) (it N k 5) = 0)) (k + 1)), nI (k + 1), hk σ I3 L3), ?_, I3, L3, rfl, (f1.tr f2).tr f3, r3⟩
      show mL_paid_l156f 99 A B C (nI (bs (fun k => decide (fls T N k (it N k 4) (it N k 5) = 0)) k)) (nI k) (hk σ I1 L1) = some (.inl (nI (bs (fun k => decide (fls T N k (it N k 4) (it N k 5) = 0)) k ||| (if decide (fls T N k (it N k 4) (it N k 5) = 0) = true then 2 ^ k else 0)), nI (k + 1), hk σ I3 L3))
      have c0 : (if nI (why T N k) = 0 then mL_paid_b193 99 A B C (nI k) (nI (bs (fun k => decide (fls T N k (it N k 4) (it N k 5) = 0)) k)) (nI (2 ^ k)) (hk σ I3 L3) else mL_paid_b193 99 A B C (nI k) (nI (bs (fun k => decide (fls T N k (it N k 4) (it N k 5) = 0)) k)) 0 (hk σ I3 L3)) = (if why T N k = 0 then mL_paid_b193 99 A B C (nI k) (nI (bs (fun k => decide (fls T N k (it N k 4) (it N k 5) = 0)) k)) (nI (2 ^ k)) (hk σ I3 L3) else mL_paid_b193 99 A B C (nI k) (nI (bs (fun k => decide (fls T N k (it N k 4) (it N k 5) = 0)) k)) 0 (hk σ I3 L3)) := c_0 (by unfold why; omega)
      unfold mL_paid_l156f
      rw [gX h.1, e2, b2s, c_lt hk' (by omega), gX h.1, e3, b2s, shl1 (by omega), c0]
      unfold mL_paid_b193
      show (if fls T N k (it N k 4) (it N k 5) = 0 then _ else _) = _
      by_cases q : fls T N k (it N k 4) (it N k 5) = 0
      · rw [if_pos q, decide_eq_true q, if_pos rfl, nx_or, nI_1]
      · rw [if_neg q, decide_eq_false q, if_neg (by decide), show (0 : Int32) = nI 0 from rfl, nx_or, nI_1])
    (fun st hQ => by
      obtain ⟨I1, L1, rfl, f1, r1⟩ := hQ
      obtain ⟨I2, L2, e2, f2, r2⟩ := l_p156e r1 hn
      refine ⟨_, ?_, I2, L2, rfl, f1.tr f2, r2⟩
      rw [hA, hB, hC]; exact e2)
    (s := (nI 0, nI 0, hk σ I L)) ⟨I, L, rfl, fun x _ => ⟨rfl, rfl⟩, h⟩
  exact ⟨I1, L1, e, f1, r1⟩
def lastI (T N : Nat → Nat) (i : Nat) : Int32 := if i = 0 then -1 else nI (wi (isF T N) 256 (i - 1))
theorem wi_lt {p : Nat → Bool} {m i j : Nat} (hij : i < j) (hj : j < cntB p m) : wi p m i < wi p m j := by
  obtain ⟨a1, _, a3⟩ := wi_ok (p := p) (n := m) (i := i) (by omega)
  obtain ⟨b1, _, _⟩ := wi_ok (p := p) (n := m) (i := j) (by omega)
  refine Nat.not_le.mp fun q => ?_
  have := cntB_mono p q
  omega
theorem l_paid (h : RB σ I L T N u P K Q n) (hn : n < 100000000) :
    ∃ I1 L1, mL_paid 99 (hk σ I L) = some (1, hk σ I1 L1) ∧ FrL I L I1 L1 ∧ RB σ I1 L1 T N u P K Q (n + 2) := by
  obtain ⟨w1, w18, w16, n16, hW, hE⟩ := h.b
  have cl := cntB_le (isF T N) 256
  obtain ⟨I0, L0, e0, r0, f0⟩ := h.que (c_outcomes h.2.1.1)
  unfold mL_paid
  rw [if_pos (s99 h.1), gX h.1, e0, b2s]
  unfold mL_paid_l21
  obtain ⟨o, e, I1, L1, rfl, f1, r1⟩ := lp_inv (f := fun s : (Int32 × Int32 × Int32 × Int32 × Int32 × Hp) => mL_paid_l21f 99 (nI (cntB (isF T N) 256)) s.1 s.2.1 s.2.2.1 s.2.2.2.1 s.2.2.2.2.1 s.2.2.2.2.2) (cntB (isF T N) 256)
    (fun i st => ∃ I1 L1, st = (nI (fo (fun s w => s + cntB (lk T N w) 256) (isF T N) 0 (wi (isF T N) 256 i)), nI (fo (fun s w => s ||| ws T N w) (isF T N) 0 (wi (isF T N) 256 i)), nI (fo (fun s w => max s (pc (ws T N w))) (isF T N) 0 (wi (isF T N) 256 i)), lastI T N i, nI i, hk σ I1 L1) ∧ FrL I L I1 L1 ∧ RB σ I1 L1 T N u P K Q n)
    (fun o => ∃ I1 L1, o = (1, hk σ I1 L1) ∧ FrL I L I1 L1 ∧ RB σ I1 L1 T N u P K Q (n + 2))
    (fun i st hi hQ => by
      obtain ⟨I1, L1, rfl, f1, r1⟩ := hQ
      obtain ⟨I2, L2, e2, r2, f2⟩ := r1.out0 hi
      obtain ⟨I3, L3, e3, r3, f3⟩ := r2.out1 hi
      obtain ⟨I4, L4, e4, r4, f4⟩ := r3.out2 hi
      obtain ⟨b1, b2, b3⟩ := wi_ok (p := isF T N) (n := 256) (i := i) (by omega)
      obtain ⟨b3, b4⟩ := b3 hi
      have wl := ws_lt (T := T) w18 (wi (isF T N) 256 i)
      obtain ⟨I5, L5, e5, r5, f5⟩ := r4.together (X := ws T N (wi (isF T N) 256 i)) (by unfold ws; exact bs_lt _ _)
      rw [tg_ws b3 (isF_l b4)] at e5
      obtain ⟨I6, L6, e6, r6, f6⟩ := r5.out2 hi
      obtain ⟨I7, L7, e7, r7, f7⟩ := l_p114 r6 hi (nI (fo (fun s w => s + cntB (lk T N w) 256) (isF T N) 0 (wi (isF T N) 256 i)) + nI (cntB (lk T N (wi (isF T N) 256 i)) 256)) (nI (fo (fun s w => s ||| ws T N w) (isF T N) 0 (wi (isF T N) 256 i)) ||| nI (ws T N (wi (isF T N) 256 i))) (nI (cntB (isF T N) 256)) (mmax (nI (fo (fun s w => max s (pc (ws T N w))) (isF T N) 0 (wi (isF T N) 256 i))) (nI (pc (ws T N (wi (isF T N) 256 i))))) (nI (wi (isF T N) 256 i))
      refine ⟨_, ?_, I7, L7, rfl, (((((f1.tr f2).tr f3).tr f4).tr f5).tr f6).tr f7, r7⟩
      show mL_paid_l21f 99 (nI (cntB (isF T N) 256)) (nI (fo (fun s w => s + cntB (lk T N w) 256) (isF T N) 0 (wi (isF T N) 256 i))) (nI (fo (fun s w => s ||| ws T N w) (isF T N) 0 (wi (isF T N) 256 i))) (nI (fo (fun s w => max s (pc (ws T N w))) (isF T N) 0 (wi (isF T N) 256 i))) (lastI T N i) (nI i) (hk σ I1 L1) = _
      have ml := foM_le (T := T) (N := N) (isF T N) (wi (isF T N) 256 i)
      have pl := pc_le (ws T N (wi (isF T N) 256 i))
      have g5 : lastI T N i < nI (wi (isF T N) 256 i) := by
        unfold lastI
        by_cases q : i = 0
        · rw [if_pos q]; exact nI_gm1 (by omega)
        · rw [if_neg q]
          have := wi_lt (p := isF T N) (m := 256) (i := i - 1) (j := i) (by omega) hi
          exact nI_lt this (by omega)
      unfold mL_paid_l21f
      rw [c_lt hi (by omega), gX h.1, e2, b2s, gX h.1, e3, b2s, cbits_ok _ wl, obind, gX h.1, e4, b2s, if_pos g5, gX h.1, e5, b2s, if_pos (show bI true = 1 from rfl), gX h.1, e6, b2s, e7, fo_wi hi, fo_wi hi, fo_wi hi, nI_add, nx_or, max_d (by omega) (by omega)]
      have : lastI T N (i + 1) = nI (wi (isF T N) 256 i) := by
        unfold lastI
        rw [if_neg (by omega)]; rfl
      rw [this])
    (fun st hQ => by
      obtain ⟨I1, L1, rfl, f1, r1⟩ := hQ
      obtain ⟨I2, L2, e2, f2, r2⟩ := l_p156 r1 hn
      have es : fo (fun s w => s + cntB (lk T N w) 256) (isF T N) 0 256 = cntB (lft T N) 256 := by
        rw [fo_sm (fun w => cntB (lk T N w) 256), cnt_sort]
      refine ⟨(1, hk σ I2 L2), ?_, I2, L2, rfl, f1.tr f2, r2⟩
      show mL_paid_l21f 99 (nI (cntB (isF T N) 256)) (nI (fo (fun s w => s + cntB (lk T N w) 256) (isF T N) 0 (wi (isF T N) 256 (cntB (isF T N) 256)))) (nI (fo (fun s w => s ||| ws T N w) (isF T N) 0 (wi (isF T N) 256 (cntB (isF T N) 256)))) (nI (fo (fun s w => max s (pc (ws T N w))) (isF T N) 0 (wi (isF T N) 256 (cntB (isF T N) 256)))) (lastI T N (cntB (isF T N) 256)) (nI (cntB (isF T N) 256)) (hk σ I1 L1) = _
      unfold mL_paid_l21f
      rw [fo_wn, fo_wn, fo_wn, es, c_nlt (Nat.le_refl _) (by omega), e2, xts])
    (s := (nI (fo (fun s w => s + cntB (lk T N w) 256) (isF T N) 0 (wi (isF T N) 256 0)), nI (fo (fun s w => s ||| ws T N w) (isF T N) 0 (wi (isF T N) 256 0)), nI (fo (fun s w => max s (pc (ws T N w))) (isF T N) 0 (wi (isF T N) 256 0)), lastI T N 0, nI 0, hk σ I0 L0)) ⟨I0, L0, rfl, f0, r0⟩
  rw [fo_w0, fo_w0, fo_w0] at e
  exact ⟨I1, L1, e, f1, r1⟩
end E8
