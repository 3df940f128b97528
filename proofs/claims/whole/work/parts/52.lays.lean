section Lays
variable {σ : Sg} {I I' I1 I2 : Nat → Nat → Int32} {L L' L1 L2 : Nat → Nat → Int64}
def lw (T N : Nat → Nat) (k : Nat) : Nat → Bool := fun w => lft T N w && won T (it N k 0) w
/-- what the model's rows of ways hold -/
def WY (T N : Nat → Nat) (k : Nat) (r q : Nat → Int32) (lo : Nat) : Prop := ∀ x, lo ≤ x → x < 3 ^ T 1 → r x = nI (cn (lft T N) (T 1) x) ∧ q x = nI (cn (lw T N k) (T 1) x)
theorem g451 : gR 12 33 433 (hk σ I L) = some 451 := rfl
theorem g452 : gR 12 34 433 (hk σ I L) = some 452 := rfl
theorem g453 : gR 12 35 433 (hk σ I L) = some 453 := rfl
theorem nI_m1n {x : Nat} (h : 0 < x) : nI x + -1 = nI (x - 1) := by
  obtain ⟨y, rfl⟩ : ∃ y, x = y + 1 := ⟨x - 1, by omega⟩
  rw [show nI (y + 1) + -1 = nI (y + 1) - 1 from (Int32.sub_eq_add_neg _ _).symm, nI_pred]; rfl
theorem up12 (I : Nat → Nat → Int32) (r q r' : Nat → Int32) : rowUp (rowUp (rowUp I 451 r) 452 q) 451 r' = rowUp (rowUp I 451 r') 452 q := by
  funext a k
  simp only [rowUp_at]
  by_cases h1 : a = 451
  · subst h1; simp
  · simp [h1]
theorem laysWays_ok {T N : Nat → Nat} (h : MI I T N) (h3 : P3 I) {k : Nat} (hk' : k < N 18) : ∃ r q, mX12_laysWays 433 (nI k) (hk σ I L) = some (hk σ (rowUp (rowUp I 451 r) 452 q) L) ∧ WY T N k r q 0 := by
  have hW := h.2.2.1
  have w1 := hW.1.2.1
  have hM := p3_8 w1
  have hM0 := p3_pos (T 1)
  have mi : ∀ r q, MI (rowUp (rowUp I 451 r) 452 q) T N := fun r q => (h.up (by omega) (by omega) (by omega)).up (by omega) (by omega) (by omega)
  have pp : ∀ r q, P3 (rowUp (rowUp I 451 r) 452 q) := fun r q => (h3.up r (by omega)).up q (by omega)
  have r1 : ∀ r q, (rowUp (rowUp I 451 r) 452 q) 451 = r := fun r q => by rw [rowUp_at, if_neg (by decide), rowUp_same]
  have r2 : ∀ r q, (rowUp (rowUp I 451 r) 452 q) 452 = q := fun r q => rowUp_same _ _ _
  have lP : ∀ w, lft T N w = true → w < 2 ^ T 1 := fun w hw => lft_lt hw
  have wP : ∀ w, lw T N k w = true → w < 2 ^ T 1 := fun w hw => lft_lt (by unfold lw at hw; rw [Bool.and_eq_true] at hw; exact hw.1)
  have bl := fun x => cn_le (lft T N) (T 1) x
  have bw := fun x => cn_le (lw T N k) (T 1) x
  have put : ∀ x r q v1 v2, x < 3 ^ T 1 → WY T N k r q (x + 1) → v1 = nI (cn (lft T N) (T 1) x) → v2 = nI (cn (lw T N k) (T 1) x) → WY T N k (updA r x v1) (updA q x v2) x := by
    intro x r q v1 v2 hx hy e1 e2 y hy1 hy2
    rw [updA_at, updA_at]
    by_cases e : y = x
    · subst e; rw [if_pos rfl, if_pos rfl]; exact ⟨e1, e2⟩
    · rw [if_neg e, if_neg e]; exact hy y (by omega) hy2
  have one : ∀ x r q, x < 3 ^ T 1 → WY T N k r q (x + 1) → ∃ r' q', mX12_laysWays_l13f 433 (nI k) (nI x) (hk σ (rowUp (rowUp I 451 r) 452 q) L) = some (.inl (nI x + -1, hk σ (rowUp (rowUp I 451 r') 452 q') L)) ∧ WY T N k r' q' x := by
    intro x r q hx hy
    obtain ⟨u, eu, _, u2, u3, u4⟩ := muntold_ok (σ := σ) (L := L) (mi r q) (pp r q) (x := x) (s := 0) (by omega) (Nat.zero_le _)
    unfold mX12_laysWays_l13f mX12_laysWays_b194
    rw [if_neg (nI_pos (show x < 2 ^ 31 by omega)), show (0 : Int32) = nI 0 from rfl, eu, obind, g434, ldT1 (mi r q).1, obind]
    by_cases hu : u < T 1
    · have hd := u4 hu
      have s1 := put_lt hx hu hd (d := 1) (by omega)
      have s2 := put_lt hx hu hd (d := 2) (by omega)
      have c1 := cn_split (P := lft T N) hu hd
      have c2 := cn_split (P := lw T N k) hu hd
      have hp := p3_pos u
      obtain ⟨a1, a2⟩ := hy _ (show x + 1 ≤ x + 1 * 3 ^ u by omega) s1
      obtain ⟨b1, b2⟩ := hy _ (show x + 1 ≤ x + 2 * 3 ^ u by omega) s2
      rw [Nat.one_mul] at s1 a1 a2 c1 c2
      rw [c_lt hu (by omega), g451, obind, obind, ld3 (pp r q) (by omega), obind, nI_add, ldI_ok (n := 6561) rfl (by omega) (by omega), obind, obind, obind, show (2 : Int32) = nI 2 from rfl, pk_mul, nI_add, ldI_ok (n := 6561) rfl (by omega) (by omega), obind, hpI_hk', r1, a1, b1, nI_add, ← c1, stI_ok (n := 6561) rfl (by omega) (by omega), obind, setI_hk, hpI_hk', r1, up12, g452, obind, obind, ld3 (pp _ q) (by omega), obind, nI_add, ldI_ok (n := 6561) rfl (by omega) (by omega), obind, obind, obind, pk_mul, nI_add, ldI_ok (n := 6561) rfl (by omega) (by omega), obind, hpI_hk', r2, a2, b2, nI_add, ← c2, stI_ok (n := 6561) rfl (by omega) (by omega), obind, setI_hk, rowUp_two, hpI_hk', r2]
      exact ⟨_, _, rfl, put x r q _ _ hx hy rfl rfl⟩
    · have hu1 : u = T 1 := by omega
      subst hu1
      have ht : ∀ f, f < T 1 → dg x f ≠ 0 := fun f hf => u3 f (Nat.zero_le _) hf
      have n1 := cn_all w1 ht lP
      have n2 := cn_all w1 ht wP
      have hw := wld_lt (n := T 1) (x := x) w1
      rw [c_nlt (Nat.le_refl _) (by omega)]
      unfold mX12_laysWays_l109
      have key := lp_traj (f := fun s : Int32 × Int32 => mX12_laysWays_l109f 433 (nI k) (nI x) (nI (T 1)) (hk σ (rowUp (rowUp I 451 r) 452 q) L) s.1 s.2) (T 1) (fun i => (nI (bs (fun f => decide (dg x f = 2)) i), nI i))
        (.inl (nI x + -1, hk σ (rowUp (rowUp I 451 (updA r x (nI (cn (lft T N) (T 1) x)))) 452 (updA q x (nI (cn (lw T N k) (T 1) x)))) L)) (fun i hi => ?_) ?_
      · exact ⟨_, _, key, put x r q _ _ hx hy rfl rfl⟩
      · show mX12_laysWays_l109f 433 (nI k) (nI x) (nI (T 1)) (hk σ (rowUp (rowUp I 451 r) 452 q) L) (nI (bs (fun f => decide (dg x f = 2)) i)) (nI i) = some (Sum.inl (nI (bs (fun f => decide (dg x f = 2)) i ||| (if decide (dg x i = 2) = true then 2 ^ i else 0)), nI (i + 1)))
        have hd3 := dg_lt x i
        unfold mX12_laysWays_l109f mX12_laysWays_b135
        rw [c_lt hi (by omega), mdig_ok (pp r q) (by omega) (by omega), obind, show (2 : Int32) = nI 2 from rfl, c_eqd (by omega) (by omega), shl1 (by omega), nx_or, nx_or0, nI_1]
        by_cases e : dg x i = 2
        · rw [if_pos e, decide_eq_true e, if_pos rfl]
        · rw [if_neg e, decide_eq_false e, if_neg (by decide), Nat.or_zero]
      · show mX12_laysWays_l109f 433 (nI k) (nI x) (nI (T 1)) (hk σ (rowUp (rowUp I 451 r) 452 q) L) (nI (wld (T 1) x)) (nI (T 1)) = _
        have st1 : ∀ v : Int32, stI 451 (nI x) v (hk σ (rowUp (rowUp I 451 r) 452 q) L) = some (hk σ (rowUp (rowUp I 451 (updA r x v)) 452 q) L) := fun v => by
          rw [stI_ok (n := 6561) rfl (by omega) (by omega), setI_hk, hpI_hk', r1, up12]
        have st2 : ∀ (r : Nat → Int32) (v : Int32), stI 452 (nI x) v (hk σ (rowUp (rowUp I 451 r) 452 q) L) = some (hk σ (rowUp (rowUp I 451 r) 452 (updA q x v)) L) := fun r v => by
          rw [stI_ok (n := 6561) rfl (by omega) (by omega), setI_hk, hpI_hk', r2, rowUp_two]
        unfold mX12_laysWays_l109f mX12_laysWays_b163 mX12_laysWays_b192 mX12_laysWays_b193 mX12_laysWays_b194
        rw [c_nlt (Nat.le_refl _) (by omega), g451, obind, (mi r q).left hw, obind, bI_if0, n1, n2]
        rcases Bool.eq_false_or_eq_true (lft T N (wld (T 1) x)) with e | e
        · rw [e, if_neg nTF, if_pos rfl, show nI 1 = (1 : Int32) from rfl, st1, obind, g452, obind, (mi _ q).left hw, obind, e, bI_if0, if_neg nTF, (mi _ q).won hk' hw, obind, bI_if0, decide_eq_true (lP _ e), Bool.true_and, show lw T N k (wld (T 1) x) = won T (it N k 0) (wld (T 1) x) by unfold lw; rw [e, Bool.true_and]]
          rcases Bool.eq_false_or_eq_true (won T (it N k 0) (wld (T 1) x)) with e2 | e2
          · rw [e2, if_neg nTF, if_pos rfl, show nI 1 = (1 : Int32) from rfl, st2, obind, xts]
          · rw [e2, if_pos rfl, if_neg (show ¬ false = true by decide), show nI 0 = (0 : Int32) from rfl, st2, obind, xts]
        · rw [e, if_pos rfl, if_neg (show ¬ false = true by decide), show nI 0 = (0 : Int32) from rfl, st1, obind, g452, obind, (mi _ q).left hw, obind, e, bI_if0, if_pos rfl, st2, obind, show lw T N k (wld (T 1) x) = false by unfold lw; rw [e, Bool.false_and], if_neg (show ¬ false = true by decide), show nI 0 = (0 : Int32) from rfl, xts]
  unfold mX12_laysWays mX12_laysWays_l13
  rw [if_pos s433, g434, ldT1 h.1, obind, ld3 h3 (by omega), obind]
  obtain ⟨o, e, r, q, rfl, hy⟩ := lp_inv (f := fun s : Int32 × Hp => mX12_laysWays_l13f 433 (nI k) s.1 s.2) (3 ^ T 1) (fun i st => ∃ r q, st = (nI (3 ^ T 1 - i) - 1, hk σ (rowUp (rowUp I 451 r) 452 q) L) ∧ i ≤ 3 ^ T 1 ∧ WY T N k r q (3 ^ T 1 - i))
    (fun o => ∃ r q, o = hk σ (rowUp (rowUp I 451 r) 452 q) L ∧ WY T N k r q 0)
    (fun i st hi hQ => by
      obtain ⟨r, q, rfl, hi2, hy⟩ := hQ
      obtain ⟨x, hx⟩ : ∃ x, 3 ^ T 1 - i = x + 1 := ⟨3 ^ T 1 - i - 1, by omega⟩
      rw [hx] at hy ⊢
      obtain ⟨r', q', e, hy'⟩ := one x r q (by omega) hy
      refine ⟨_, ?_, r', q', rfl, by omega, ?_⟩
      · show mX12_laysWays_l13f 433 (nI k) (nI (x + 1) - 1) (hk σ (rowUp (rowUp I 451 r) 452 q) L) = _
        rw [nI_pred, e, show 3 ^ T 1 - (i + 1) = x by omega, Int32.sub_eq_add_neg]
      · rw [show 3 ^ T 1 - (i + 1) = x by omega]; exact hy')
    (fun st hQ => by
      obtain ⟨r, q, rfl, hi2, hy⟩ := hQ
      rw [Nat.sub_self] at hy ⊢
      refine ⟨_, ?_, r, q, rfl, hy⟩
      show mX12_laysWays_l13f 433 (nI k) (nI 0 - 1) (hk σ (rowUp (rowUp I 451 r) 452 q) L) = _
      unfold mX12_laysWays_l13f
      rw [if_pos (by decide), xts]) (s := (nI (3 ^ T 1) - 1, hk σ (rowUp (rowUp I 451 (I 451)) 452 (rowUp I 451 (I 451) 452)) L)) ⟨I 451, _, by rw [Nat.sub_zero], Nat.zero_le _, fun x h1 h2 => by omega⟩
  rw [rowUp_id, rowUp_id] at e
  exact ⟨r, q, e, hy⟩
theorem agw_0 (n w : Nat) : agw n 0 w = true := by
  unfold agw
  rw [allB_iff]
  intro f _
  have : dg 0 f = 0 := by unfold dg; rw [Nat.zero_div]
  rw [this]; rfl
theorem cn_0 (P : Nat → Bool) (n : Nat) : cn P n 0 = cntB P 256 := by
  unfold cn
  have : (fun w => P w && agw n 0 w) = P := by funext w; rw [agw_0, Bool.and_true]
  rw [this]
/-- judged -/
theorem q_judged {T N : Nat → Nat} (h : CR σ I L T N) (hm : MI I T N) (h3 : P3 I) (x : Int32) :
    ∃ v L1 I2, mX11_judged 100 x (hk σ I L) = some (v, hk σ I L1) ∧ mX12_judged 433 x (hk σ I L1) = some (v, hk σ I2 L1) ∧ FrC I L I L1 ∧ FrM I L1 I2 L1 := by
  have hW := h.2.1
  have h18 := (h.2.2.1.bkH hW).1
  unfold mX11_judged mX12_judged
  rw [if_pos s100, cisCount_ok h, obind, bI_if0]
  rcases ixn x (N 18) (by omega) with ⟨k, hk', rfl, hd⟩ | hd
  · obtain ⟨r, e1, hr⟩ := remember_ok h
    have h2 : CR σ I (rowUp L 415 r) T N := h.upL (by omega)
    obtain ⟨w1, w2, w3⟩ := h2.wonR hk'
    obtain ⟨r1, q1, e2, hy⟩ := laysWays_ok (σ := σ) (L := rowUp L 415 r) hm h3 hk'
    obtain ⟨y1, y2⟩ := hy 0 (Nat.zero_le _) (p3_pos _)
    rw [cn_0] at y1 y2
    have l1 := cntB_le (lft T N) 256
    have l2 := cntB_le (lw T N k) 256
    have le : cntB (lw T N k) 256 ≤ cntB (lft T N) 256 := cntB_leq fun w _ hw => by unfold lw at hw; rw [Bool.and_eq_true] at hw; exact hw.1
    have ex : ∃ w, w < 256 ∧ lft T N w = true := h.2.2.1.2.2.2.2.2
    have a2 : ldI 452 (0 : Int32) (hk σ (rowUp (rowUp I 451 r1) 452 q1) (rowUp L 415 r)) = some (nI (cntB (lw T N k) 256)) := by rw [show (0 : Int32) = nI 0 from rfl, ldI_ok (n := 6561) rfl (by omega) (by omega), hpI_hk', rowUp_same, y2]
    have a1 : ldI 451 (0 : Int32) (hk σ (rowUp (rowUp I 451 r1) 452 q1) (rowUp L 415 r)) = some (nI (cntB (lft T N) 256)) := by rw [show (0 : Int32) = nI 0 from rfl, ldI_ok (n := 6561) rfl (by omega) (by omega), hpI_hk', rowUp_at, if_neg (show ¬ 451 = 452 by decide), rowUp_same, y1]
    refine ⟨how3 (lft T N) (won T (it N k 0)), rowUp L 415 r, rowUp (rowUp I 451 r1) 452 q1, ?_, ?_, FrC.rf.upL _ (by unfold scC; omega), FrM.upI (a := 452) (FrM.upI (a := 451) FrM.rf r1 (by unfold scM; omega)) q1 (by unfold scM; omega)⟩
    · rw [hd, if_neg nTF, e1, obind, gLeft, gLa, ckind_ok h2 hk', obind, w3, obind, howIn_ok (wLeft (σ := σ) (I := I) (L := rowUp L 415 r)) w1 (by rw [hpL_hk'', rowUp_same]; exact hr) (by rw [hpL_hk'']; exact w2), obind]
    · rw [if_pos s433, misCount_ok hm.2.1 h18, obind, bI_if0, hd, if_neg nTF, e2, obind, g452, obind, a2, obind, obind, a2, obind, g451, obind, a1, obind, c_0 (by omega), c_eqd (by omega) (by omega)]
      unfold how3
      by_cases z : cntB (lw T N k) 256 = 0
      · have n1 : anyB (fun w => lft T N w && won T (it N k 0) w) 256 = false := cntB_0.mp z
        have n2 : ¬ allB (fun w => !lft T N w || won T (it N k 0) w) 256 = true := by
          intro ha
          obtain ⟨w, hw, hl⟩ := ex
          have := allB_iff.mp ha w hw
          rw [hl] at this
          have : anyB (fun w => lft T N w && won T (it N k 0) w) 256 = true := anyB_iff.mpr ⟨w, hw, by rw [hl]; simpa using this⟩
          rw [n1] at this; cases this
        rw [if_pos z, if_neg n2, n1]; rfl
      · have n1 : anyB (fun w => lft T N w && won T (it N k 0) w) 256 = true := by
          cases e : anyB (fun w => lft T N w && won T (it N k 0) w) 256
          · exact absurd (cntB_0.mpr e) z
          · rfl
        rw [if_neg z, n1]
        by_cases z2 : cntB (lw T N k) 256 = cntB (lft T N) 256
        · have : allB (fun w => !lft T N w || won T (it N k 0) w) 256 = true := by
            rw [allB_iff]
            intro w hw
            cases hl : lft T N w
            · rfl
            · cases hwn : won T (it N k 0) w
              · have := cntB_lt (p := lw T N k) (q := lft T N) (n := 256) (fun v _ hv => by unfold lw at hv; rw [Bool.and_eq_true] at hv; exact hv.1) hw (by unfold lw; rw [hwn, Bool.and_false]) hl
                omega
              · rfl
          rw [if_pos z2, this]; rfl
        · have : ¬ allB (fun w => !lft T N w || won T (it N k 0) w) 256 = true := by
            intro ha
            apply z2
            have : cntB (lft T N) 256 ≤ cntB (lw T N k) 256 := cntB_leq fun w hw hl => by
              have := allB_iff.mp ha w hw
              unfold lw
              rw [hl] at this ⊢
              simpa using this
            omega
          rw [if_neg z2, if_neg this]; rfl
  · refine ⟨-1, L, I, ?_, ?_, FrC.rf, FrM.rf⟩
    · rw [hd, if_pos rfl]
    · rw [if_pos s433, misCount_ok hm.2.1 h18, obind, bI_if0, hd, if_pos rfl]
end Lays
