section MSEEN
variable {σ : Sg} {I : Nat → Nat → Int32} {L : Nat → Nat → Int64}
/-- never yes and no at once -/
def excl (h : Nat) (v : VP) : Prop := ∀ i, i < h → ((v i).1 && (v i).2) = false
theorem cnt_excl (f g : Nat → Bool) (m : Nat) (h : ∀ i, i < m → (f i && g i) = false) : cntB f m + cntB g m + cntB (fun i => !f i && !g i) m = m := by
  induction m with
  | zero => rfl
  | succ m ih =>
    simp only [cntB]
    have := ih fun i hi => h i (by omega)
    have h2 := h m (by omega)
    by_cases h3 : f m = true <;> by_cases h4 : g m = true <;> simp [h3, h4] at h2 ⊢ <;> omega
theorem excl_stp {q : VP} (hq : ∀ f, ((q f).1 && (q f).2) = false) {c h : Nat} {v : VP} (hok' : hok c h = true) (hv : excl h v) : excl (hst c h) (stp q c (h, v)).2 := by
  intro i hi
  unfold hok at hok'
  unfold hst at hi
  unfold stp
  by_cases k0 : c / 100 = 0
  · rw [if_pos k0] at hi hok' ⊢
    simp only [updA_at]
    by_cases e : i = h
    · rw [if_pos e]; exact hq _
    · rw [if_neg e]; exact hv i (by omega)
  · rw [if_neg k0] at hi hok' ⊢
    by_cases k1 : c / 100 = 1
    · rw [if_pos k1] at hi hok' ⊢
      have hf := of_decide_eq_true hok'
      simp only [updA_at]
      by_cases e : i = h - 1
      · rw [if_pos e]; have := hv (h - 1) (by omega); simp only; rw [Bool.and_comm]; exact this
      · rw [if_neg e]; exact hv i (by omega)
    · rw [if_neg k1] at hi hok' ⊢
      by_cases k4 : c / 100 = 4
      · rw [if_pos k4] at hi hok' ⊢
        have hf := of_decide_eq_true hok'
        simp only [updA_at]
        by_cases e : i = h - c % 10
        · rw [if_pos e]
          have := cnt_excl (fun i => (v (h - c % 10 + i)).1) (fun i => (v (h - c % 10 + i)).2) (c % 10) (fun i hi => hv _ (by omega))
          simp only [Bool.and_eq_false_iff, decide_eq_false_iff_not]
          omega
        · rw [if_neg e]; exact hv i (by omega)
      · rw [if_neg k4] at hi hok' ⊢
        have hf := of_decide_eq_true hok'
        have h1 := hv (h - 1) (by omega)
        have h2 := hv (h - 2) (by omega)
        by_cases k2 : c / 100 = 2
        · rw [if_pos k2]
          simp only [updA_at]
          by_cases e : i = h - 2
          · rw [if_pos e]
            revert h1 h2
            simp only
            cases (v (h - 1)).1 <;> cases (v (h - 1)).2 <;> cases (v (h - 2)).1 <;> cases (v (h - 2)).2 <;> decide
          · rw [if_neg e]; exact hv i (by omega)
        · rw [if_neg k2]
          simp only [updA_at]
          by_cases e : i = h - 2
          · rw [if_pos e]
            revert h1 h2
            simp only
            cases (v (h - 1)).1 <;> cases (v (h - 1)).2 <;> cases (v (h - 2)).1 <;> cases (v (h - 2)).2 <;> decide
          · rw [if_neg e]; exact hv i (by omega)
def c3v (v : Bool × Bool) : Int32 := nI (code3 v)
def pile3 (P : Nat → Int32) (h : Nat) (v : VP) : Prop := ∀ i, i < h → P i = c3v (v i)
theorem cI1 (v : Bool × Bool) (h : (v.1 && v.2) = false) : (c3v v = 1) = (v.1 = true) := by
  have k : ∀ a b : Bool, (a && b) = false → (c3v (a, b) = 1 ↔ a = true) := by decide +kernel
  exact propext (k v.1 v.2 h)
theorem cI2 (v : Bool × Bool) (h : (v.1 && v.2) = false) : (c3v v = 2) = ((!v.1 && !v.2) = true) := by
  have k : ∀ a b : Bool, (a && b) = false → (c3v (a, b) = 2 ↔ (!a && !b) = true) := by decide +kernel
  exact propext (k v.1 v.2 h)
theorem turned_ok (v : Bool × Bool) (h : (v.1 && v.2) = false) : mX12_turned (c3v v) = some (c3v (v.2, v.1)) := by
  have k : ∀ a b : Bool, (a && b) = false → mX12_turned (c3v (a, b)) = some (c3v (b, a)) := by decide +kernel
  exact k v.1 v.2 h
theorem andOf_ok (v u : Bool × Bool) (h : (v.1 && v.2) = false) (h2 : (u.1 && u.2) = false) : mX12_andOf (c3v v) (c3v u) = some (c3v (v.1 && u.1, v.2 || u.2)) := by
  have k : ∀ a b c d : Bool, (a && b) = false → (c && d) = false → mX12_andOf (c3v (a, b)) (c3v (c, d)) = some (c3v (a && c, b || d)) := by decide +kernel
  exact k v.1 v.2 u.1 u.2 h h2
theorem ms_some (e k s m l : Int32) (P : Nat → Int32) (n of : Nat) (v : VP) (hn : n ≤ 60) (hm : of % 10 ≤ n) (hof : of < 100) (hP : pile3 P n v) (hv : excl n v) :
    mX12_seen_l148 433 e k (nI n) s (nI of) 0 0 0 (hk σ (rowUp I 443 P) L) = some (.inl (nI (n - of % 10 + 1), s + 1, hk σ (rowUp I 443 (updA P (n - of % 10) (c3v (decide (of / 10 ≤ cntB (fun i => (v (n - of % 10 + i)).1) (of % 10)), decide (of % 10 + 1 ≤ of / 10 + cntB (fun i => (v (n - of % 10 + i)).2) (of % 10)))))) L)) := by
  unfold mX12_seen_l148
  refine lp_traj (f := fun q : Int32 × Int32 × Int32 × Int32 => mX12_seen_l148f 433 e k s (nI of) (hk σ (rowUp I 443 P) L) q.1 q.2.1 q.2.2.1 q.2.2.2) (of % 10) (fun i => (nI (n - i), nI (cntB (fun t => (v (n - 1 - t)).1) i), nI (cntB (fun t => !(v (n - 1 - t)).1 && !(v (n - 1 - t)).2) i), nI i)) _ (fun i hi => ?_) ?_
  · show mX12_seen_l148f 433 e k s (nI of) (hk σ (rowUp I 443 P) L) (nI (n - i)) (nI (cntB (fun t => (v (n - 1 - t)).1) i)) (nI (cntB (fun t => !(v (n - 1 - t)).1 && !(v (n - 1 - t)).2) i)) (nI i) = _
    unfold mX12_seen_l148f mX12_seen_b178 mX12_seen_b198
    have hPi := hP (n - 1 - i) (by omega)
    have hvi := hv (n - 1 - i) (by omega)
    have s2 : ∀ (x : Int32) (K1 K2 : Option ((Int32 × Int32 × Int32 × Int32) ⊕ ((Int32 × Int32 × Hp) ⊕ (Int32 × Hp)))), (if P (n - 1 - i) = 1 then K1 else K2) = if (v (n - 1 - i)).1 = true then K1 else K2 := fun x K1 K2 => by
      rw [hPi]; simp only [cI1 _ hvi]
    have s3 : ∀ (K1 K2 : Option ((Int32 × Int32 × Int32 × Int32) ⊕ ((Int32 × Int32 × Hp) ⊕ (Int32 × Hp)))), (if P (n - 1 - i) = 2 then K1 else K2) = if (!(v (n - 1 - i)).1 && !(v (n - 1 - i)).2) = true then K1 else K2 := fun K1 K2 => by
      rw [hPi]; simp only [cI2 _ hvi]
    rw [nz10, nI_m10 (by omega), c_lt hi (by omega)]
    have g : ∀ (f : Nat → Option ((Int32 × Int32 × Int32 × Int32) ⊕ ((Int32 × Int32 × Hp) ⊕ (Int32 × Hp)))), (gR 12 23 433 (hk σ (rowUp I 443 P) L)).bind f = f 443 := fun f => rfl
    have ld : ldI 443 (nI (n - i) + -1) (hk σ (rowUp I 443 P) L) = some (P (n - 1 - i)) := by
      rw [nI_m1 (by omega), ldI_ok (n := 490) rfl (by omega) (by omega), hpI_hk, rowUp_same, show n - i - 1 = n - 1 - i by omega]
    have ld2 : ldI 443 (nI (n - i - 1)) (hk σ (rowUp I 443 P) L) = some (P (n - 1 - i)) := by rw [← ld, nI_m1 (by omega)]
    rw [g, ld, obind, s2 0]
    simp only [g, ld, ld2, obind, s3, nI_1, nI_m1 (show 1 ≤ n - i by omega), cntB, show n - (i + 1) = n - i - 1 by omega, show (0 : Int32) = nI 0 from rfl, nI_add]
    by_cases h1 : (v (n - 1 - i)).1 = true <;> by_cases h2 : (v (n - 1 - i)).2 = true <;> simp [h1, h2]
  · show mX12_seen_l148f 433 e k s (nI of) (hk σ (rowUp I 443 P) L) (nI (n - of % 10)) (nI (cntB (fun t => (v (n - 1 - t)).1) (of % 10))) (nI (cntB (fun t => !(v (n - 1 - t)).1 && !(v (n - 1 - t)).2) (of % 10))) (nI (of % 10)) = _
    have rev : ∀ g : Bool × Bool → Bool, cntB (fun t => g (v (n - 1 - t))) (of % 10) = cntB (fun i => g (v (n - of % 10 + i))) (of % 10) := fun g => by
      rw [← cntB_rev (fun i => g (v (n - of % 10 + i))) (of % 10)]
      apply cntB_congr
      intro t ht
      show g (v (n - 1 - t)) = g (v (n - of % 10 + (of % 10 - 1 - t)))
      rw [show n - 1 - t = n - of % 10 + (of % 10 - 1 - t) by omega]
    rw [rev (fun x => x.1), rev (fun x => !x.1 && !x.2)]
    have hc := cnt_excl (fun i => (v (n - of % 10 + i)).1) (fun i => (v (n - of % 10 + i)).2) (of % 10) (fun i hi => hv _ (by omega))
    generalize cntB (fun i => (v (n - of % 10 + i)).1) (of % 10) = cy at hc ⊢
    generalize cntB (fun i => (v (n - of % 10 + i)).2) (of % 10) = cn at hc ⊢
    generalize cntB (fun i => !(v (n - of % 10 + i)).1 && !(v (n - of % 10 + i)).2) (of % 10) = cu at hc ⊢
    have st : ∀ x : Int32, (stI 443 (nI (n - of % 10)) x (hk σ (rowUp I 443 P) L)) = some (hk σ (rowUp I 443 (updA P (n - of % 10) x)) L) := fun x => by
      rw [stI_ok (n := 490) rfl (by omega) (by omega), setI_hk, rowUp_two, hpI_hk', rowUp_same]
    unfold mX12_seen_l148f mX12_seen_b244 mX12_seen_b312
    rw [nz10, nI_m10 (by omega), c_nlt (Nat.le_refl _) (by omega), show ∀ (f : Nat → Option ((Int32 × Int32 × Hp) ⊕ (Int32 × Hp))), (gR 12 23 433 (hk σ (rowUp I 443 P) L)).bind f = f 443 from fun f => rfl, nz10, nz10, nI_d10 (by omega), nI_add, c_ltd (by omega) (by omega), c_ltd (by omega) (by omega), st, st, st, obind, obind, obind, nI_1]
    by_cases h1 : cy < of / 10
    · rw [if_pos h1, decide_eq_false (show ¬ of / 10 ≤ cy by omega)]
      by_cases h2 : cy + cu < of / 10
      · rw [if_pos h2, decide_eq_true (show of % 10 + 1 ≤ of / 10 + cn by omega)]; rfl
      · rw [if_neg h2, decide_eq_false (show ¬ of % 10 + 1 ≤ of / 10 + cn by omega)]; rfl
    · rw [if_neg h1, decide_eq_true (show of / 10 ≤ cy by omega)]; rfl
theorem ms_step (e k s h c b S So : Nat) (P : Nat → Int32) (v : VP) (he : e < 33) (hk8 : k < 8) (hb : I 434 (117 + e) = nI b) (hs : s < b) (hb490 : b ≤ 490) (hc : I 434 (150 + s) = nI c) (h4 : I 438 (19 + 8 * k + 4) = nI S) (h5 : I 438 (19 + 8 * k + 5) = nI So) (hS : S < 256) (hSo : So < 256)
    (hok' : hok c h = true) (h60 : h ≤ 60) (hP : pile3 P h v) (hv : excl h v) :
    ∃ P', mX12_seen_l13f 433 (nI e) (nI k) (nI h) (nI s) (hk σ (rowUp I 443 P) L) = some (.inl (nI (hst c h), nI (s + 1), hk σ (rowUp I 443 P') L)) ∧ pile3 P' (hst c h) (stp (qs S So) c (h, v)).2 := by
  have hc5 := hok_lt hok'
  unfold mX12_seen_l13f
  simp only [mX12_seen_b312, mX12_seen_b311, mX12_seen_b98]
  unfold hok at hok'
  unfold hst stp
  by_cases k0 : c / 100 = 0
  · rw [if_pos k0] at hok' ⊢
    have hf := of_decide_eq_true hok'
    refine ⟨updA P h (c3v (qs S So (c % 100))), ?_, ?_⟩
    · by_cases hsb : S.testBit (c % 100) = true
      · have e1 : c3v (qs S So (c % 100)) = bI (So.testBit (c % 100)) := by unfold qs; rw [hsb]; cases So.testBit (c % 100) <;> rfl
        simp (disch := first | assumption | omega) only [↓gI_b, ↓gL_b, ↓gR_b, ↓sI_b, ↓sZ_b, ↓sL_b, ↓aLen_b, ↓ldI_b, ↓ldL_b, ↓ldZ_b, ↓ldR_b, ↓stI_b, ↓stL_b, ↓stZ_b, ↓at_b, ↓put_b, ↓longAt_b, ↓putLong_b, ↓has_b, ↓mhas_b, ↓needSlot_b, ↓reduceIte, hpS_hk, kI_50, kI_80, kL_51, kL_81, kS_ok, kI_0, kI_1, kL_0, kS_0, kS_1, ixN_n, ixN_0, ixN_1, k50_ok, k51_ok, rowUp_at, updAt, rowUp_two, updA_two, Nat.add_zero, atV_n, laV_n, atV_0, laV_0, putV_n, plV_n, hasI_n, obind, b2s, xts, eq_self, Nat.reduceAdd, Nat.reduceEqDiff, Nat.reduceMul, Nat.reduceLT, Nat.reduceSub, nI_1, nI_add, pk_mul, nI_sub, nI_s1, nI_m1, lt_t, lt_f, lt0_f, eq0_d, eq1_d, gt0_d, lt_d, eq_d, bI0_d, bI1_d, if_pos, if_neg, true_and, and_true, true_or, or_true, aKd_50, aKd_51, aKd_80, aKd_81, aKd_65, aKd_70, z01_b, z01_e, z01_0, z01_1, SH_100, SH_101, SH_102, SH_103, SH_104, SH_105, SH_106, SH_107, SH_108, SH_109, SH_110, SH_111, SH_282, SH_283, SH_284, SH_285, SH_286, SH_287, SH_414, SH_415, SH_416, SH_417, SH_418, SH_419, SH_420, SH_421, SH_422, SH_423, SH_424, SH_425, SH_426, SH_427, SH_428, SH_429, SH_430, SH_431, SH_432, SH_433, SH_434, SH_435, SH_436, SH_437, SH_438, SH_439, SH_440, SH_441, SH_442, SH_443, SH_444, SH_445, SH_446, SH_447, SH_448, SH_449, SH_450, SH_451, SH_452, SH_453, SH_454, SH_1, SH_2, SH_3, RF_433_0, RF_433_1, RF_433_2, RF_433_3, RF_433_4, RF_433_5, RF_433_6, RF_433_7, RF_433_9, RF_433_23, RF_433_24, RF_433_25, RF_433_26, RF_433_27, RF_433_28, RF_433_29, RF_433_30, RF_433_33, RF_433_34, RF_433_35, RF_433_38, L117, L150, L19, L8, L4, L5, ↓its_b, hb, hc, h4, h5, ↓nz100, nI_d100, nI_m100', bit_n, hsb, if_false, e1, reduceCtorEq]
      · have e1 : c3v (qs S So (c % 100)) = nI 2 := by
          have : S.testBit (c % 100) = false := by simpa using hsb
          unfold qs; rw [this]; rfl
        simp (disch := first | assumption | omega) only [↓gI_b, ↓gL_b, ↓gR_b, ↓sI_b, ↓sZ_b, ↓sL_b, ↓aLen_b, ↓ldI_b, ↓ldL_b, ↓ldZ_b, ↓ldR_b, ↓stI_b, ↓stL_b, ↓stZ_b, ↓at_b, ↓put_b, ↓longAt_b, ↓putLong_b, ↓has_b, ↓mhas_b, ↓needSlot_b, ↓reduceIte, hpS_hk, kI_50, kI_80, kL_51, kL_81, kS_ok, kI_0, kI_1, kL_0, kS_0, kS_1, ixN_n, ixN_0, ixN_1, k50_ok, k51_ok, rowUp_at, updAt, rowUp_two, updA_two, Nat.add_zero, atV_n, laV_n, atV_0, laV_0, putV_n, plV_n, hasI_n, obind, b2s, xts, eq_self, Nat.reduceAdd, Nat.reduceEqDiff, Nat.reduceMul, Nat.reduceLT, Nat.reduceSub, nI_1, nI_add, pk_mul, nI_sub, nI_s1, nI_m1, lt_t, lt_f, lt0_f, eq0_d, eq1_d, gt0_d, lt_d, eq_d, bI0_d, bI1_d, if_pos, if_neg, true_and, and_true, true_or, or_true, aKd_50, aKd_51, aKd_80, aKd_81, aKd_65, aKd_70, z01_b, z01_e, z01_0, z01_1, SH_100, SH_101, SH_102, SH_103, SH_104, SH_105, SH_106, SH_107, SH_108, SH_109, SH_110, SH_111, SH_282, SH_283, SH_284, SH_285, SH_286, SH_287, SH_414, SH_415, SH_416, SH_417, SH_418, SH_419, SH_420, SH_421, SH_422, SH_423, SH_424, SH_425, SH_426, SH_427, SH_428, SH_429, SH_430, SH_431, SH_432, SH_433, SH_434, SH_435, SH_436, SH_437, SH_438, SH_439, SH_440, SH_441, SH_442, SH_443, SH_444, SH_445, SH_446, SH_447, SH_448, SH_449, SH_450, SH_451, SH_452, SH_453, SH_454, SH_1, SH_2, SH_3, RF_433_0, RF_433_1, RF_433_2, RF_433_3, RF_433_4, RF_433_5, RF_433_6, RF_433_7, RF_433_9, RF_433_23, RF_433_24, RF_433_25, RF_433_26, RF_433_27, RF_433_28, RF_433_29, RF_433_30, RF_433_33, RF_433_34, RF_433_35, RF_433_38, L117, L150, L19, L8, L4, L5, L2, ↓its_b, hb, hc, h4, h5, ↓nz100, nI_d100, nI_m100', hsb, if_true, e1]
    · rw [if_pos k0]
      intro i hi
      simp only [updA_at]
      by_cases ei : i = h
      · rw [if_pos ei, if_pos ei]
      · rw [if_neg ei, if_neg ei]; exact hP i (by omega)
  · rw [if_neg k0] at hok' ⊢
    by_cases k1 : c / 100 = 1
    · rw [if_pos k1] at hok' ⊢
      have hf := of_decide_eq_true hok'
      have hp1 := hP (h - 1) (by omega)
      have ht := turned_ok (v (h - 1)) (hv (h - 1) (by omega))
      refine ⟨updA P (h - 1) (c3v ((v (h - 1)).2, (v (h - 1)).1)), ?_, ?_⟩
      · simp (disch := first | assumption | omega) only [↓gI_b, ↓gL_b, ↓gR_b, ↓sI_b, ↓sZ_b, ↓sL_b, ↓aLen_b, ↓ldI_b, ↓ldL_b, ↓ldZ_b, ↓ldR_b, ↓stI_b, ↓stL_b, ↓stZ_b, ↓at_b, ↓put_b, ↓longAt_b, ↓putLong_b, ↓has_b, ↓mhas_b, ↓needSlot_b, ↓reduceIte, hpS_hk, kI_50, kI_80, kL_51, kL_81, kS_ok, kI_0, kI_1, kL_0, kS_0, kS_1, ixN_n, ixN_0, ixN_1, k50_ok, k51_ok, rowUp_at, updAt, rowUp_two, updA_two, Nat.add_zero, atV_n, laV_n, atV_0, laV_0, putV_n, plV_n, hasI_n, obind, b2s, xts, eq_self, Nat.reduceAdd, Nat.reduceEqDiff, Nat.reduceMul, Nat.reduceLT, Nat.reduceSub, nI_1, nI_add, pk_mul, nI_sub, nI_s1, nI_m1, lt_t, lt_f, lt0_f, eq0_d, eq1_d, gt0_d, lt_d, eq_d, bI0_d, bI1_d, if_pos, if_neg, true_and, and_true, true_or, or_true, aKd_50, aKd_51, aKd_80, aKd_81, aKd_65, aKd_70, z01_b, z01_e, z01_0, z01_1, SH_100, SH_101, SH_102, SH_103, SH_104, SH_105, SH_106, SH_107, SH_108, SH_109, SH_110, SH_111, SH_282, SH_283, SH_284, SH_285, SH_286, SH_287, SH_414, SH_415, SH_416, SH_417, SH_418, SH_419, SH_420, SH_421, SH_422, SH_423, SH_424, SH_425, SH_426, SH_427, SH_428, SH_429, SH_430, SH_431, SH_432, SH_433, SH_434, SH_435, SH_436, SH_437, SH_438, SH_439, SH_440, SH_441, SH_442, SH_443, SH_444, SH_445, SH_446, SH_447, SH_448, SH_449, SH_450, SH_451, SH_452, SH_453, SH_454, SH_1, SH_2, SH_3, RF_433_0, RF_433_1, RF_433_2, RF_433_3, RF_433_4, RF_433_5, RF_433_6, RF_433_7, RF_433_9, RF_433_23, RF_433_24, RF_433_25, RF_433_26, RF_433_27, RF_433_28, RF_433_29, RF_433_30, RF_433_33, RF_433_34, RF_433_35, RF_433_38, L117, L150, hb, hc, ↓nz100, nI_d100, nI_m100', hp1, ht]
      · rw [if_neg k0, if_pos k1]
        intro i hi
        simp only [updA_at]
        by_cases ei : i = h - 1
        · rw [if_pos ei, if_pos ei]
        · rw [if_neg ei, if_neg ei]; exact hP i (by omega)
    · rw [if_neg k1] at hok' ⊢
      by_cases k4 : c / 100 = 4
      · rw [if_pos k4] at hok' ⊢
        have hf := of_decide_eq_true hok'
        have m1 : c % 100 % 10 = c % 10 := by omega
        have m2 : c % 100 / 10 = c / 10 % 10 := by omega
        refine ⟨updA P (h - c % 10) (c3v (decide (c / 10 % 10 ≤ cntB (fun i => (v (h - c % 10 + i)).1) (c % 10)), decide (c % 10 + 1 ≤ c / 10 % 10 + cntB (fun i => (v (h - c % 10 + i)).2) (c % 10)))), ?_, ?_⟩
        · have e1 := ms_some (σ := σ) (I := I) (L := L) (nI e) (nI k) (nI s) 0 0 P h (c % 100) v h60 (by omega) (by omega) hP hv
          rw [m1, m2] at e1
          simp (disch := first | assumption | omega) only [↓gI_b, ↓gL_b, ↓gR_b, ↓sI_b, ↓sZ_b, ↓sL_b, ↓aLen_b, ↓ldI_b, ↓ldL_b, ↓ldZ_b, ↓ldR_b, ↓stI_b, ↓stL_b, ↓stZ_b, ↓at_b, ↓put_b, ↓longAt_b, ↓putLong_b, ↓has_b, ↓mhas_b, ↓needSlot_b, ↓reduceIte, hpS_hk, kI_50, kI_80, kL_51, kL_81, kS_ok, kI_0, kI_1, kL_0, kS_0, kS_1, ixN_n, ixN_0, ixN_1, k50_ok, k51_ok, rowUp_at, updAt, rowUp_two, updA_two, Nat.add_zero, atV_n, laV_n, atV_0, laV_0, putV_n, plV_n, hasI_n, obind, b2s, xts, eq_self, Nat.reduceAdd, Nat.reduceEqDiff, Nat.reduceMul, Nat.reduceLT, Nat.reduceSub, nI_1, nI_add, pk_mul, nI_sub, nI_s1, nI_m1, lt_t, lt_f, lt0_f, eq0_d, eq1_d, gt0_d, lt_d, eq_d, bI0_d, bI1_d, if_pos, if_neg, true_and, and_true, true_or, or_true, aKd_50, aKd_51, aKd_80, aKd_81, aKd_65, aKd_70, z01_b, z01_e, z01_0, z01_1, SH_100, SH_101, SH_102, SH_103, SH_104, SH_105, SH_106, SH_107, SH_108, SH_109, SH_110, SH_111, SH_282, SH_283, SH_284, SH_285, SH_286, SH_287, SH_414, SH_415, SH_416, SH_417, SH_418, SH_419, SH_420, SH_421, SH_422, SH_423, SH_424, SH_425, SH_426, SH_427, SH_428, SH_429, SH_430, SH_431, SH_432, SH_433, SH_434, SH_435, SH_436, SH_437, SH_438, SH_439, SH_440, SH_441, SH_442, SH_443, SH_444, SH_445, SH_446, SH_447, SH_448, SH_449, SH_450, SH_451, SH_452, SH_453, SH_454, SH_1, SH_2, SH_3, RF_433_0, RF_433_1, RF_433_2, RF_433_3, RF_433_4, RF_433_5, RF_433_6, RF_433_7, RF_433_9, RF_433_23, RF_433_24, RF_433_25, RF_433_26, RF_433_27, RF_433_28, RF_433_29, RF_433_30, RF_433_33, RF_433_34, RF_433_35, RF_433_38, L117, L150, hb, hc, ↓nz100, nI_d100, nI_m100', L4, e1]
        · rw [if_neg k0, if_neg k1, if_pos k4]
          intro i hi
          simp only [updA_at]
          by_cases ei : i = h - c % 10
          · rw [if_pos ei, if_pos ei]
          · rw [if_neg ei, if_neg ei]; exact hP i (by omega)
      · rw [if_neg k4] at hok' ⊢
        have hf := of_decide_eq_true hok'
        have hp1 := hP (h - 1) (by omega)
        have hp2 := hP (h - 2) (by omega)
        have hv1 := hv (h - 1) (by omega)
        have hv2 := hv (h - 2) (by omega)
        have a1 : h - 1 - 1 = h - 2 := by omega
        by_cases k2 : c / 100 = 2
        · have ha := andOf_ok (v (h - 2)) (v (h - 1)) hv2 hv1
          refine ⟨updA P (h - 2) (c3v ((v (h - 2)).1 && (v (h - 1)).1, (v (h - 2)).2 || (v (h - 1)).2)), ?_, ?_⟩
          · simp (disch := first | assumption | omega) only [↓gI_b, ↓gL_b, ↓gR_b, ↓sI_b, ↓sZ_b, ↓sL_b, ↓aLen_b, ↓ldI_b, ↓ldL_b, ↓ldZ_b, ↓ldR_b, ↓stI_b, ↓stL_b, ↓stZ_b, ↓at_b, ↓put_b, ↓longAt_b, ↓putLong_b, ↓has_b, ↓mhas_b, ↓needSlot_b, ↓reduceIte, hpS_hk, kI_50, kI_80, kL_51, kL_81, kS_ok, kI_0, kI_1, kL_0, kS_0, kS_1, ixN_n, ixN_0, ixN_1, k50_ok, k51_ok, rowUp_at, updAt, rowUp_two, updA_two, Nat.add_zero, atV_n, laV_n, atV_0, laV_0, putV_n, plV_n, hasI_n, obind, b2s, xts, eq_self, Nat.reduceAdd, Nat.reduceEqDiff, Nat.reduceMul, Nat.reduceLT, Nat.reduceSub, nI_1, nI_add, pk_mul, nI_sub, nI_s1, nI_m1, lt_t, lt_f, lt0_f, eq0_d, eq1_d, gt0_d, lt_d, eq_d, bI0_d, bI1_d, if_pos, if_neg, true_and, and_true, true_or, or_true, aKd_50, aKd_51, aKd_80, aKd_81, aKd_65, aKd_70, z01_b, z01_e, z01_0, z01_1, SH_100, SH_101, SH_102, SH_103, SH_104, SH_105, SH_106, SH_107, SH_108, SH_109, SH_110, SH_111, SH_282, SH_283, SH_284, SH_285, SH_286, SH_287, SH_414, SH_415, SH_416, SH_417, SH_418, SH_419, SH_420, SH_421, SH_422, SH_423, SH_424, SH_425, SH_426, SH_427, SH_428, SH_429, SH_430, SH_431, SH_432, SH_433, SH_434, SH_435, SH_436, SH_437, SH_438, SH_439, SH_440, SH_441, SH_442, SH_443, SH_444, SH_445, SH_446, SH_447, SH_448, SH_449, SH_450, SH_451, SH_452, SH_453, SH_454, SH_1, SH_2, SH_3, RF_433_0, RF_433_1, RF_433_2, RF_433_3, RF_433_4, RF_433_5, RF_433_6, RF_433_7, RF_433_9, RF_433_23, RF_433_24, RF_433_25, RF_433_26, RF_433_27, RF_433_28, RF_433_29, RF_433_30, RF_433_33, RF_433_34, RF_433_35, RF_433_38, L117, L150, L2, L4, hb, hc, ↓nz100, nI_d100, nI_m100', a1, hp1, hp2, ha]
          · rw [if_neg k0, if_neg k1, if_neg k4, if_pos k2]
            intro i hi
            simp only [updA_at]
            by_cases ei : i = h - 2
            · rw [if_pos ei, if_pos ei]
            · rw [if_neg ei, if_neg ei]; exact hP i (by omega)
        · have t1 := turned_ok (v (h - 2)) hv2
          have t2 := turned_ok (v (h - 1)) hv1
          have ha := andOf_ok ((v (h - 2)).2, (v (h - 2)).1) ((v (h - 1)).2, (v (h - 1)).1) (by rw [Bool.and_comm]; exact hv2) (by rw [Bool.and_comm]; exact hv1)
          have t3 := turned_ok ((v (h - 2)).2 && (v (h - 1)).2, (v (h - 2)).1 || (v (h - 1)).1) (by revert hv1 hv2; cases (v (h - 2)).1 <;> cases (v (h - 2)).2 <;> cases (v (h - 1)).1 <;> cases (v (h - 1)).2 <;> decide)
          refine ⟨updA P (h - 2) (c3v ((v (h - 2)).1 || (v (h - 1)).1, (v (h - 2)).2 && (v (h - 1)).2)), ?_, ?_⟩
          · simp (disch := first | assumption | omega) only [↓gI_b, ↓gL_b, ↓gR_b, ↓sI_b, ↓sZ_b, ↓sL_b, ↓aLen_b, ↓ldI_b, ↓ldL_b, ↓ldZ_b, ↓ldR_b, ↓stI_b, ↓stL_b, ↓stZ_b, ↓at_b, ↓put_b, ↓longAt_b, ↓putLong_b, ↓has_b, ↓mhas_b, ↓needSlot_b, ↓reduceIte, hpS_hk, kI_50, kI_80, kL_51, kL_81, kS_ok, kI_0, kI_1, kL_0, kS_0, kS_1, ixN_n, ixN_0, ixN_1, k50_ok, k51_ok, rowUp_at, updAt, rowUp_two, updA_two, Nat.add_zero, atV_n, laV_n, atV_0, laV_0, putV_n, plV_n, hasI_n, obind, b2s, xts, eq_self, Nat.reduceAdd, Nat.reduceEqDiff, Nat.reduceMul, Nat.reduceLT, Nat.reduceSub, nI_1, nI_add, pk_mul, nI_sub, nI_s1, nI_m1, lt_t, lt_f, lt0_f, eq0_d, eq1_d, gt0_d, lt_d, eq_d, bI0_d, bI1_d, if_pos, if_neg, true_and, and_true, true_or, or_true, aKd_50, aKd_51, aKd_80, aKd_81, aKd_65, aKd_70, z01_b, z01_e, z01_0, z01_1, SH_100, SH_101, SH_102, SH_103, SH_104, SH_105, SH_106, SH_107, SH_108, SH_109, SH_110, SH_111, SH_282, SH_283, SH_284, SH_285, SH_286, SH_287, SH_414, SH_415, SH_416, SH_417, SH_418, SH_419, SH_420, SH_421, SH_422, SH_423, SH_424, SH_425, SH_426, SH_427, SH_428, SH_429, SH_430, SH_431, SH_432, SH_433, SH_434, SH_435, SH_436, SH_437, SH_438, SH_439, SH_440, SH_441, SH_442, SH_443, SH_444, SH_445, SH_446, SH_447, SH_448, SH_449, SH_450, SH_451, SH_452, SH_453, SH_454, SH_1, SH_2, SH_3, RF_433_0, RF_433_1, RF_433_2, RF_433_3, RF_433_4, RF_433_5, RF_433_6, RF_433_7, RF_433_9, RF_433_23, RF_433_24, RF_433_25, RF_433_26, RF_433_27, RF_433_28, RF_433_29, RF_433_30, RF_433_33, RF_433_34, RF_433_35, RF_433_38, L117, L150, L2, L4, hb, hc, ↓nz100, nI_d100, nI_m100', a1, hp1, hp2, t1, t2, ha, t3]
          · rw [if_neg k0, if_neg k1, if_neg k4, if_neg k2]
            intro i hi
            simp only [updA_at]
            by_cases ei : i = h - 2
            · rw [if_pos ei, if_pos ei]
            · rw [if_neg ei, if_neg ei]; exact hP i (by omega)
/-- how an EXPR is seen by what a COUNT alleges -/
def sen (T : Nat → Nat) (e S So : Nat) : Nat := code3 (evP (qs S So) (cT T) (T (84 + e)) (T (117 + e)))
theorem mseen_ok {T : Nat → Nat} (hT : rT I T) (hW : WT T) {e k S So : Nat} (he : e < T 6) (hk8 : k < 8) (h4 : I 438 (19 + 8 * k + 4) = nI S) (h5 : I 438 (19 + 8 * k + 5) = nI So) (hS : S < 256) (hSo : So < 256) :
    ∃ P, mX12_seen 433 (nI e) (nI k) (hk σ I L) = some (nI (sen T e S So), hk σ (rowUp I 443 P) L) := by
  obtain ⟨⟨w0, w1, w2, w3, w4, w5, w6, w7⟩, _, _, _, _, we, _⟩ := hW
  obtain ⟨hwf, hle7⟩ := we e he
  have h60 := hAt_le60 hwf.2.1
  have start : mX12_seen 433 (nI e) (nI k) (hk σ I L) = mX12_seen_l13 433 (nI e) (nI k) (nI 0) (nI (T (84 + e))) (hk σ (rowUp I 443 (I 443)) L) := by
    have ha := hT (84 + e) (by omega)
    unfold mX12_seen
    simp (disch := first | assumption | omega) only [↓gI_b, ↓gL_b, ↓gR_b, ↓sI_b, ↓sZ_b, ↓sL_b, ↓aLen_b, ↓ldI_b, ↓ldL_b, ↓ldZ_b, ↓ldR_b, ↓stI_b, ↓stL_b, ↓stZ_b, ↓at_b, ↓put_b, ↓longAt_b, ↓putLong_b, ↓has_b, ↓mhas_b, ↓needSlot_b, ↓reduceIte, hpS_hk, kI_50, kI_80, kL_51, kL_81, kS_ok, kI_0, kI_1, kL_0, kS_0, kS_1, ixN_n, ixN_0, ixN_1, k50_ok, k51_ok, rowUp_at, updAt, rowUp_two, updA_two, Nat.add_zero, atV_n, laV_n, atV_0, laV_0, putV_n, plV_n, hasI_n, obind, b2s, xts, eq_self, Nat.reduceAdd, Nat.reduceEqDiff, Nat.reduceMul, Nat.reduceLT, Nat.reduceSub, nI_1, nI_add, pk_mul, nI_sub, nI_s1, nI_m1, lt_t, lt_f, lt0_f, eq0_d, eq1_d, gt0_d, lt_d, eq_d, bI0_d, bI1_d, if_pos, if_neg, true_and, and_true, true_or, or_true, aKd_50, aKd_51, aKd_80, aKd_81, aKd_65, aKd_70, z01_b, z01_e, z01_0, z01_1, SH_100, SH_101, SH_102, SH_103, SH_104, SH_105, SH_106, SH_107, SH_108, SH_109, SH_110, SH_111, SH_282, SH_283, SH_284, SH_285, SH_286, SH_287, SH_414, SH_415, SH_416, SH_417, SH_418, SH_419, SH_420, SH_421, SH_422, SH_423, SH_424, SH_425, SH_426, SH_427, SH_428, SH_429, SH_430, SH_431, SH_432, SH_433, SH_434, SH_435, SH_436, SH_437, SH_438, SH_439, SH_440, SH_441, SH_442, SH_443, SH_444, SH_445, SH_446, SH_447, SH_448, SH_449, SH_450, SH_451, SH_452, SH_453, SH_454, SH_1, SH_2, SH_3, RF_433_0, RF_433_1, RF_433_2, RF_433_3, RF_433_4, RF_433_5, RF_433_6, RF_433_7, RF_433_9, RF_433_23, RF_433_24, RF_433_25, RF_433_26, RF_433_27, RF_433_28, RF_433_29, RF_433_30, RF_433_33, RF_433_34, RF_433_35, RF_433_38, L84, ha, rowUp_id, i0]
  rw [start]
  unfold mX12_seen_l13
  have key := lp_inv (f := fun s : Int32 × Int32 × Hp => mX12_seen_l13f 433 (nI e) (nI k) s.1 s.2.1 s.2.2) (T (117 + e) - T (84 + e)) (fun s st => ∃ P, st = (nI (hAt (cT T) (T (84 + e)) s), nI (T (84 + e) + s), hk σ (rowUp I 443 P) L) ∧ pile3 P (hAt (cT T) (T (84 + e)) s) (runV (qs S So) (cT T) (T (84 + e)) s).2 ∧ excl (hAt (cT T) (T (84 + e)) s) (runV (qs S So) (cT T) (T (84 + e)) s).2)
    (fun r => ∃ P', r = (nI (sen T e S So), hk σ (rowUp I 443 P') L))
    (fun s st hs hQ => by
      obtain ⟨P, rfl, hP, hv⟩ := hQ
      obtain ⟨P', e1, e2⟩ := ms_step (σ := σ) (I := I) (L := L) e k (T (84 + e) + s) (hAt (cT T) (T (84 + e)) s) (cT T (T (84 + e) + s)) (T (117 + e)) S So P (runV (qs S So) (cT T) (T (84 + e)) s).2 (by omega) hk8 (hT _ (by omega)) (by omega) (by omega) (hT _ (by omega)) h4 h5 hS hSo (hwf.2.1 s hs) (h60 s (by omega)) hP hv
      have er : ((hAt (cT T) (T (84 + e)) s), (runV (qs S So) (cT T) (T (84 + e)) s).2) = runV (qs S So) (cT T) (T (84 + e)) s := Prod.ext (runV_h _ _ _ _).symm rfl
      have e3 := excl_stp (q := qs S So) (fun f => by unfold qs; cases S.testBit f <;> cases So.testBit f <;> rfl) (hwf.2.1 s hs) hv
      rw [er] at e2 e3
      exact ⟨_, e1, P', rfl, e2, e3⟩)
    (fun st hQ => by
      obtain ⟨P, rfl, hP, hv⟩ := hQ
      refine ⟨_, ?_, P, rfl⟩
      have h1 := hwf.2.2
      have hle := hwf.1
      have hP0 := hP 0 (by omega)
      show mX12_seen_l13f 433 (nI e) (nI k) (nI (hAt (cT T) (T (84 + e)) (T (117 + e) - T (84 + e)))) (nI (T (84 + e) + (T (117 + e) - T (84 + e)))) _ = _
      unfold mX12_seen_l13f
      have e1 : ldI 434 ((117 : Int32) + nI e) (hk σ (rowUp I 443 P) L) = some (nI (T (117 + e))) := by
        have hs : hpS (hk σ (rowUp I 443 P) L) 434 = (50, 640) := rfl
        rw [L117, nI_add, ldI_ok hs (by omega) (by omega), hpI_hk, rowUp_at, if_neg (by omega), hT _ (by omega)]
      rw [show gR 12 0 433 (hk σ (rowUp I 443 P) L) = some 434 from rfl, obind, e1, obind, if_neg (nI_nlt (by omega) (by omega))]
      simp (disch := first | assumption | omega) only [↓gI_b, ↓gL_b, ↓gR_b, ↓sI_b, ↓sZ_b, ↓sL_b, ↓aLen_b, ↓ldI_b, ↓ldL_b, ↓ldZ_b, ↓ldR_b, ↓stI_b, ↓stL_b, ↓stZ_b, ↓at_b, ↓put_b, ↓longAt_b, ↓putLong_b, ↓has_b, ↓mhas_b, ↓needSlot_b, ↓reduceIte, hpS_hk, kI_50, kI_80, kL_51, kL_81, kS_ok, kI_0, kI_1, kL_0, kS_0, kS_1, ixN_n, ixN_0, ixN_1, k50_ok, k51_ok, rowUp_at, updAt, rowUp_two, updA_two, Nat.add_zero, atV_n, laV_n, atV_0, laV_0, putV_n, plV_n, hasI_n, obind, b2s, xts, eq_self, Nat.reduceAdd, Nat.reduceEqDiff, Nat.reduceMul, Nat.reduceLT, Nat.reduceSub, nI_1, nI_add, pk_mul, nI_sub, nI_s1, nI_m1, lt_t, lt_f, lt0_f, eq0_d, eq1_d, gt0_d, lt_d, eq_d, bI0_d, bI1_d, if_pos, if_neg, true_and, and_true, true_or, or_true, aKd_50, aKd_51, aKd_80, aKd_81, aKd_65, aKd_70, z01_b, z01_e, z01_0, z01_1, SH_100, SH_101, SH_102, SH_103, SH_104, SH_105, SH_106, SH_107, SH_108, SH_109, SH_110, SH_111, SH_282, SH_283, SH_284, SH_285, SH_286, SH_287, SH_414, SH_415, SH_416, SH_417, SH_418, SH_419, SH_420, SH_421, SH_422, SH_423, SH_424, SH_425, SH_426, SH_427, SH_428, SH_429, SH_430, SH_431, SH_432, SH_433, SH_434, SH_435, SH_436, SH_437, SH_438, SH_439, SH_440, SH_441, SH_442, SH_443, SH_444, SH_445, SH_446, SH_447, SH_448, SH_449, SH_450, SH_451, SH_452, SH_453, SH_454, SH_1, SH_2, SH_3, RF_433_0, RF_433_1, RF_433_2, RF_433_3, RF_433_4, RF_433_5, RF_433_6, RF_433_7, RF_433_9, RF_433_23, RF_433_24, RF_433_25, RF_433_26, RF_433_27, RF_433_28, RF_433_29, RF_433_30, RF_433_33, RF_433_34, RF_433_35, RF_433_38, hP0]
      rfl)
    (s := (nI 0, nI (T (84 + e)), hk σ (rowUp I 443 (I 443)) L)) ⟨_, rfl, fun i hi => absurd hi (Nat.not_lt_zero _), fun i hi => absurd hi (Nat.not_lt_zero _)⟩
  obtain ⟨r, e1, P', rfl⟩ := key
  exact ⟨P', e1⟩
end MSEEN
