section MH
variable {σ : Sg} {I : Nat → Nat → Int32} {L : Nat → Nat → Int64}
theorem nI_div {a b : Nat} (ha : a < 2147483648) (hb0 : 0 < b) (hb : b < 2147483648) : nI a / nI b = nI (a / b) := by
  apply Int32.toInt_inj.mp
  have h1 : (nI b).toInt = (b : Int) := nI_toInt hb
  have h2 : a / b ≤ a := Nat.div_le_self _ _
  rw [Int32.toInt_div, nI_toInt ha, h1, nI_toInt (by omega)]
  show ((a / b : Nat) : Int).bmod (2 ^ 32) = _
  generalize a / b = q at h2 ⊢
  exact Int.bmod_eq_of_le (by omega) (by omega)
theorem nI_d100 {a : Nat} (ha : a < 2147483648) : nI a / 100 = nI (a / 100) := nI_div (b := 100) ha (by omega) (by omega)
theorem nI_d10 {a : Nat} (ha : a < 2147483648) : nI a / 10 = nI (a / 10) := nI_div (b := 10) ha (by omega) (by omega)
theorem nI_m100 {a : Nat} (ha : a < 2147483648) : nI a - nI a / 100 * 100 = nI (a % 100) := by
  rw [nI_d100 ha, show (100 : Int32) = nI 100 from rfl, pk_mul, nI_sub (by omega)]; congr 1; omega
theorem nI_m10 {a : Nat} (ha : a < 2147483648) : nI a - nI a / 10 * 10 = nI (a % 10) := by
  rw [nI_d10 ha, show (10 : Int32) = nI 10 from rfl, pk_mul, nI_sub (by omega)]; congr 1; omega
theorem nI_m100' {a : Nat} (ha : a < 2147483648) : nI a - nI (a / 100) * 100 = nI (a % 100) := by rw [← nI_d100 ha]; exact nI_m100 ha
theorem nI_m10' {a : Nat} (ha : a < 2147483648) : nI a - nI (a / 10) * 10 = nI (a % 10) := by rw [← nI_d10 ha]; exact nI_m10 ha
theorem bit_n {w f : Nat} (hw : w < 2147483648) (hf : f < 32) : (nI w >>> (nI f &&& 31)) &&& 1 = bI (w.testBit f) := by
  rw [shr_n hw hf, nx_a1, Nat.testBit_shiftRight, Nat.add_zero]
theorem bI_n (b : Bool) : bI b = nI (if b = true then 1 else 0) := by cases b <;> rfl
theorem bI_and (a b : Bool) : bI a &&& bI b = bI (a && b) := by cases a <;> cases b <;> rfl
theorem bI_or (a b : Bool) : bI a ||| bI b = bI (a || b) := by cases a <;> cases b <;> rfl
theorem bI_not (a : Bool) : 1 - bI a = bI (!a) := by cases a <;> rfl
theorem nI_bI (a : Nat) (b : Bool) : nI a + bI b = nI (a + (if b = true then 1 else 0)) := by rw [bI_n, nI_add]
/-- places below the height hold a value or its contrary -/
def cmpl (h : Nat) (v : VP) : Prop := ∀ i, i < h → (v i).2 = !(v i).1
theorem cnt_compl (f g : Nat → Bool) (m : Nat) (h : ∀ i, i < m → g i = !f i) : cntB f m + cntB g m = m := by
  induction m with
  | zero => rfl
  | succ m ih =>
    simp only [cntB]
    have := ih fun i hi => h i (by omega)
    rw [h m (by omega)]
    cases f m <;> simp <;> omega
theorem cmpl_stp {q : VP} (hq : ∀ f, (q f).2 = !(q f).1) {c h : Nat} {v : VP} (hok' : hok c h = true) (hv : cmpl h v) : cmpl (hst c h) (stp q c (h, v)).2 := by
  intro i hi
  unfold hok at hok'
  unfold hst at hi
  unfold stp
  by_cases k0 : c / 100 = 0
  · rw [if_pos k0] at hi hok' ⊢
    simp only [updA_at]
    by_cases e : i = h
    · rw [if_pos e]; exact hq _
    · rw [if_neg e]; exact hv i (by omega)
  · rw [if_neg k0] at hi hok' ⊢
    by_cases k1 : c / 100 = 1
    · rw [if_pos k1] at hi hok' ⊢
      have hf := of_decide_eq_true hok'
      simp only [updA_at]
      by_cases e : i = h - 1
      · rw [if_pos e, hv (h - 1) (by omega)]; simp
      · rw [if_neg e]; exact hv i (by omega)
    · rw [if_neg k1] at hi hok' ⊢
      by_cases k4 : c / 100 = 4
      · rw [if_pos k4] at hi hok' ⊢
        have hf := of_decide_eq_true hok'
        simp only [updA_at]
        by_cases e : i = h - c % 10
        · rw [if_pos e]
          have := cnt_compl (fun i => (v (h - c % 10 + i)).1) (fun i => (v (h - c % 10 + i)).2) (c % 10) (fun i hi => hv _ (by omega))
          simp only [decide_eq_decide, ← decide_not]
          omega
        · rw [if_neg e]; exact hv i (by omega)
      · rw [if_neg k4] at hi hok' ⊢
        have hf := of_decide_eq_true hok'
        by_cases k2 : c / 100 = 2
        · rw [if_pos k2]
          simp only [updA_at]
          by_cases e : i = h - 2
          · rw [if_pos e, hv (h - 2) (by omega), hv (h - 1) (by omega)]; simp
          · rw [if_neg e]; exact hv i (by omega)
        · rw [if_neg k2]
          simp only [updA_at]
          by_cases e : i = h - 2
          · rw [if_pos e, hv (h - 2) (by omega), hv (h - 1) (by omega)]; simp
          · rw [if_neg e]; exact hv i (by omega)
theorem hok_lt {c h : Nat} (hk' : hok c h = true) : c < 500 := by
  unfold hok at hk'
  by_cases k0 : c / 100 = 0
  · omega
  · rw [if_neg k0] at hk'
    by_cases k1 : c / 100 = 1
    · omega
    · rw [if_neg k1] at hk'
      by_cases k4 : c / 100 = 4
      · omega
      · rw [if_neg k4] at hk'
        have := (of_decide_eq_true hk').2
        omega
def pileOk (P : Nat → Int32) (h : Nat) (v : VP) : Prop := ∀ i, i < h → P i = bI (v i).1
theorem mh_some (row : Nat) (e w s h m l : Int32) (P : Nat → Int32) (n of : Nat) (v : VP) (hn : n ≤ 60) (hm : of % 10 ≤ n) (hof : of < 100) (hP : pileOk P n v) :
    mX12_holds_l113 433 row e w (nI n) s (nI of) 0 0 (hk σ (rowUp I 443 P) L) = some (.inl (nI (n - of % 10 + 1), s + 1, hk σ (rowUp I 443 (updA P (n - of % 10) (bI (decide (of / 10 ≤ cntB (fun i => (v (n - of % 10 + i)).1) (of % 10)))))) L)) := by
  unfold mX12_holds_l113
  refine lp_traj (f := fun q : Int32 × Int32 × Int32 => mX12_holds_l113f 433 row e w s (nI of) (hk σ (rowUp I 443 P) L) q.1 q.2.1 q.2.2) (of % 10) (fun i => (nI (n - i), nI (cntB (fun t => (v (n - 1 - t)).1) i), nI i)) _ (fun i hi => ?_) ?_
  · show mX12_holds_l113f 433 row e w s (nI of) (hk σ (rowUp I 443 P) L) (nI (n - i)) (nI (cntB (fun t => (v (n - 1 - t)).1) i)) (nI i) = _
    unfold mX12_holds_l113f
    have hPi := hP (n - i - 1) (by omega)
    rw [show n - i - 1 = n - 1 - i by omega] at hPi
    simp (disch := first | assumption | omega) only [↓gI_b, ↓gL_b, ↓gR_b, ↓sI_b, ↓sZ_b, ↓sL_b, ↓aLen_b, ↓ldI_b, ↓ldL_b, ↓ldZ_b, ↓ldR_b, ↓stI_b, ↓stL_b, ↓stZ_b, ↓at_b, ↓put_b, ↓longAt_b, ↓putLong_b, ↓has_b, ↓mhas_b, ↓needSlot_b, ↓reduceIte, hpS_hk, kI_50, kI_80, kL_51, kL_81, kS_ok, kI_0, kI_1, kL_0, kS_0, kS_1, ixN_n, ixN_0, ixN_1, k50_ok, k51_ok, rowUp_at, updAt, rowUp_two, updA_two, Nat.add_zero, atV_n, laV_n, atV_0, laV_0, putV_n, plV_n, hasI_n, obind, b2s, xts, eq_self, Nat.reduceAdd, Nat.reduceEqDiff, Nat.reduceMul, Nat.reduceLT, Nat.reduceSub, nI_1, nI_add, pk_mul, nI_sub, nI_s1, nI_m1, lt_t, lt_f, lt0_f, eq0_d, eq1_d, gt0_d, lt_d, eq_d, bI0_d, bI1_d, if_pos, if_neg, true_and, and_true, true_or, or_true, aKd_50, aKd_51, aKd_80, aKd_81, aKd_65, aKd_70, z01_b, z01_e, z01_0, z01_1, SH_100, SH_101, SH_102, SH_103, SH_104, SH_105, SH_106, SH_107, SH_108, SH_109, SH_110, SH_111, SH_282, SH_283, SH_284, SH_285, SH_286, SH_287, SH_414, SH_415, SH_416, SH_417, SH_418, SH_419, SH_420, SH_421, SH_422, SH_423, SH_424, SH_425, SH_426, SH_427, SH_428, SH_429, SH_430, SH_431, SH_432, SH_433, SH_434, SH_435, SH_436, SH_437, SH_438, SH_439, SH_440, SH_441, SH_442, SH_443, SH_444, SH_445, SH_446, SH_447, SH_448, SH_449, SH_450, SH_451, SH_452, SH_453, SH_454, SH_1, SH_2, SH_3, RF_433_0, RF_433_1, RF_433_2, RF_433_3, RF_433_4, RF_433_5, RF_433_6, RF_433_7, RF_433_9, RF_433_23, RF_433_24, RF_433_25, RF_433_26, RF_433_27, RF_433_28, RF_433_29, RF_433_30, RF_433_33, RF_433_34, RF_433_35, RF_433_38, nz10, nI_m10, show n - i - 1 = n - 1 - i by omega, hPi, nI_bI]
    simp only [cntB, show n - (i + 1) = n - 1 - i by omega]
  · show mX12_holds_l113f 433 row e w s (nI of) (hk σ (rowUp I 443 P) L) (nI (n - of % 10)) (nI (cntB (fun t => (v (n - 1 - t)).1) (of % 10))) (nI (of % 10)) = _
    have ec : cntB (fun t => (v (n - 1 - t)).1) (of % 10) = cntB (fun i => (v (n - of % 10 + i)).1) (of % 10) := by
      rw [← cntB_rev (fun i => (v (n - of % 10 + i)).1) (of % 10)]
      apply cntB_congr
      intro t ht
      show (v (n - 1 - t)).1 = (v (n - of % 10 + (of % 10 - 1 - t))).1
      rw [show n - 1 - t = n - of % 10 + (of % 10 - 1 - t) by omega]
    rw [ec]
    have hc := cntB_le (fun i => (v (n - of % 10 + i)).1) (of % 10)
    generalize cntB (fun i => (v (n - of % 10 + i)).1) (of % 10) = k at hc ⊢
    unfold mX12_holds_l113f mX12_holds_b165 mX12_holds_b227
    by_cases hk' : k < of / 10
    · simp (disch := first | assumption | omega) only [↓gI_b, ↓gL_b, ↓gR_b, ↓sI_b, ↓sZ_b, ↓sL_b, ↓aLen_b, ↓ldI_b, ↓ldL_b, ↓ldZ_b, ↓ldR_b, ↓stI_b, ↓stL_b, ↓stZ_b, ↓at_b, ↓put_b, ↓longAt_b, ↓putLong_b, ↓has_b, ↓mhas_b, ↓needSlot_b, ↓reduceIte, hpS_hk, kI_50, kI_80, kL_51, kL_81, kS_ok, kI_0, kI_1, kL_0, kS_0, kS_1, ixN_n, ixN_0, ixN_1, k50_ok, k51_ok, rowUp_at, updAt, rowUp_two, updA_two, Nat.add_zero, atV_n, laV_n, atV_0, laV_0, putV_n, plV_n, hasI_n, obind, b2s, xts, eq_self, Nat.reduceAdd, Nat.reduceEqDiff, Nat.reduceMul, Nat.reduceLT, Nat.reduceSub, nI_1, nI_add, pk_mul, nI_sub, nI_s1, nI_m1, lt_t, lt_f, lt0_f, eq0_d, eq1_d, gt0_d, lt_d, eq_d, bI0_d, bI1_d, if_pos, if_neg, true_and, and_true, true_or, or_true, aKd_50, aKd_51, aKd_80, aKd_81, aKd_65, aKd_70, z01_b, z01_e, z01_0, z01_1, SH_100, SH_101, SH_102, SH_103, SH_104, SH_105, SH_106, SH_107, SH_108, SH_109, SH_110, SH_111, SH_282, SH_283, SH_284, SH_285, SH_286, SH_287, SH_414, SH_415, SH_416, SH_417, SH_418, SH_419, SH_420, SH_421, SH_422, SH_423, SH_424, SH_425, SH_426, SH_427, SH_428, SH_429, SH_430, SH_431, SH_432, SH_433, SH_434, SH_435, SH_436, SH_437, SH_438, SH_439, SH_440, SH_441, SH_442, SH_443, SH_444, SH_445, SH_446, SH_447, SH_448, SH_449, SH_450, SH_451, SH_452, SH_453, SH_454, SH_1, SH_2, SH_3, RF_433_0, RF_433_1, RF_433_2, RF_433_3, RF_433_4, RF_433_5, RF_433_6, RF_433_7, RF_433_9, RF_433_23, RF_433_24, RF_433_25, RF_433_26, RF_433_27, RF_433_28, RF_433_29, RF_433_30, RF_433_33, RF_433_34, RF_433_35, RF_433_38, nz10, nI_m10', nI_d10, hk', if_true, decide_eq_false (show ¬ of / 10 ≤ k by omega)] <;> rfl
    · simp (disch := first | assumption | omega) only [↓gI_b, ↓gL_b, ↓gR_b, ↓sI_b, ↓sZ_b, ↓sL_b, ↓aLen_b, ↓ldI_b, ↓ldL_b, ↓ldZ_b, ↓ldR_b, ↓stI_b, ↓stL_b, ↓stZ_b, ↓at_b, ↓put_b, ↓longAt_b, ↓putLong_b, ↓has_b, ↓mhas_b, ↓needSlot_b, ↓reduceIte, hpS_hk, kI_50, kI_80, kL_51, kL_81, kS_ok, kI_0, kI_1, kL_0, kS_0, kS_1, ixN_n, ixN_0, ixN_1, k50_ok, k51_ok, rowUp_at, updAt, rowUp_two, updA_two, Nat.add_zero, atV_n, laV_n, atV_0, laV_0, putV_n, plV_n, hasI_n, obind, b2s, xts, eq_self, Nat.reduceAdd, Nat.reduceEqDiff, Nat.reduceMul, Nat.reduceLT, Nat.reduceSub, nI_1, nI_add, pk_mul, nI_sub, nI_s1, nI_m1, lt_t, lt_f, lt0_f, eq0_d, eq1_d, gt0_d, lt_d, eq_d, bI0_d, bI1_d, if_pos, if_neg, true_and, and_true, true_or, or_true, aKd_50, aKd_51, aKd_80, aKd_81, aKd_65, aKd_70, z01_b, z01_e, z01_0, z01_1, SH_100, SH_101, SH_102, SH_103, SH_104, SH_105, SH_106, SH_107, SH_108, SH_109, SH_110, SH_111, SH_282, SH_283, SH_284, SH_285, SH_286, SH_287, SH_414, SH_415, SH_416, SH_417, SH_418, SH_419, SH_420, SH_421, SH_422, SH_423, SH_424, SH_425, SH_426, SH_427, SH_428, SH_429, SH_430, SH_431, SH_432, SH_433, SH_434, SH_435, SH_436, SH_437, SH_438, SH_439, SH_440, SH_441, SH_442, SH_443, SH_444, SH_445, SH_446, SH_447, SH_448, SH_449, SH_450, SH_451, SH_452, SH_453, SH_454, SH_1, SH_2, SH_3, RF_433_0, RF_433_1, RF_433_2, RF_433_3, RF_433_4, RF_433_5, RF_433_6, RF_433_7, RF_433_9, RF_433_23, RF_433_24, RF_433_25, RF_433_26, RF_433_27, RF_433_28, RF_433_29, RF_433_30, RF_433_33, RF_433_34, RF_433_35, RF_433_38, nz10, nI_m10', nI_d10, hk', if_false, decide_eq_true (show of / 10 ≤ k by omega)] <;> rfl
theorem mh_step (row : Nat) (hrow : SH (gN σ) row = (50, 640)) (hr443 : row ≠ 443) (e w s h c b : Nat) (P : Nat → Int32) (v : VP) (hb : I row (117 + e) = nI b) (he : e < 33) (hw : w < 256) (hs : s < b) (hb490 : b ≤ 490) (hc : I row (150 + s) = nI c) (hok' : hok c h = true) (h60 : h ≤ 60) (hP : pileOk P h v) (hv : cmpl h v) :
    ∃ P', mX12_holds_l11f 433 row (nI e) (nI w) (nI h) (nI s) (hk σ (rowUp I 443 P) L) = some (.inl (nI (hst c h), nI (s + 1), hk σ (rowUp I 443 P') L)) ∧ pileOk P' (hst c h) (stp (qw w) c (h, v)).2 := by
  have hc5 := hok_lt hok'
  unfold mX12_holds_l11f
  simp only [mX12_holds_b227, mX12_holds_b226]
  unfold hok at hok'
  unfold hst stp
  by_cases k0 : c / 100 = 0
  · rw [if_pos k0] at hok' ⊢
    have hf := of_decide_eq_true hok'
    refine ⟨updA P h (bI (w.testBit (c % 100))), ?_, ?_⟩
    · simp (disch := first | assumption | omega) only [↓gI_b, ↓gL_b, ↓gR_b, ↓sI_b, ↓sZ_b, ↓sL_b, ↓aLen_b, ↓ldI_b, ↓ldL_b, ↓ldZ_b, ↓ldR_b, ↓stI_b, ↓stL_b, ↓stZ_b, ↓at_b, ↓put_b, ↓longAt_b, ↓putLong_b, ↓has_b, ↓mhas_b, ↓needSlot_b, ↓reduceIte, hpS_hk, kI_50, kI_80, kL_51, kL_81, kS_ok, kI_0, kI_1, kL_0, kS_0, kS_1, ixN_n, ixN_0, ixN_1, k50_ok, k51_ok, rowUp_at, updAt, rowUp_two, updA_two, Nat.add_zero, atV_n, laV_n, atV_0, laV_0, putV_n, plV_n, hasI_n, obind, b2s, xts, eq_self, Nat.reduceAdd, Nat.reduceEqDiff, Nat.reduceMul, Nat.reduceLT, Nat.reduceSub, nI_1, nI_add, pk_mul, nI_sub, nI_s1, nI_m1, lt_t, lt_f, lt0_f, eq0_d, eq1_d, gt0_d, lt_d, eq_d, bI0_d, bI1_d, if_pos, if_neg, true_and, and_true, true_or, or_true, aKd_50, aKd_51, aKd_80, aKd_81, aKd_65, aKd_70, z01_b, z01_e, z01_0, z01_1, SH_100, SH_101, SH_102, SH_103, SH_104, SH_105, SH_106, SH_107, SH_108, SH_109, SH_110, SH_111, SH_282, SH_283, SH_284, SH_285, SH_286, SH_287, SH_414, SH_415, SH_416, SH_417, SH_418, SH_419, SH_420, SH_421, SH_422, SH_423, SH_424, SH_425, SH_426, SH_427, SH_428, SH_429, SH_430, SH_431, SH_432, SH_433, SH_434, SH_435, SH_436, SH_437, SH_438, SH_439, SH_440, SH_441, SH_442, SH_443, SH_444, SH_445, SH_446, SH_447, SH_448, SH_449, SH_450, SH_451, SH_452, SH_453, SH_454, SH_1, SH_2, SH_3, RF_433_0, RF_433_1, RF_433_2, RF_433_3, RF_433_4, RF_433_5, RF_433_6, RF_433_7, RF_433_9, RF_433_23, RF_433_24, RF_433_25, RF_433_26, RF_433_27, RF_433_28, RF_433_29, RF_433_30, RF_433_33, RF_433_34, RF_433_35, RF_433_38, hrow, L117, L150, hr443, hb, hc, ↓nz100, nI_d100, nI_m100', bit_n, if_false]
    · rw [if_pos k0]
      intro i hi
      simp only [updA_at]
      by_cases ei : i = h
      · rw [if_pos ei, if_pos ei]; rfl
      · rw [if_neg ei, if_neg ei]; exact hP i (by omega)
  · rw [if_neg k0] at hok' ⊢
    by_cases k1 : c / 100 = 1
    · rw [if_pos k1] at hok' ⊢
      have hf := of_decide_eq_true hok'
      have hp1 := hP (h - 1) (by omega)
      refine ⟨updA P (h - 1) (bI (!(v (h - 1)).1)), ?_, ?_⟩
      · simp (disch := first | assumption | omega) only [↓gI_b, ↓gL_b, ↓gR_b, ↓sI_b, ↓sZ_b, ↓sL_b, ↓aLen_b, ↓ldI_b, ↓ldL_b, ↓ldZ_b, ↓ldR_b, ↓stI_b, ↓stL_b, ↓stZ_b, ↓at_b, ↓put_b, ↓longAt_b, ↓putLong_b, ↓has_b, ↓mhas_b, ↓needSlot_b, ↓reduceIte, hpS_hk, kI_50, kI_80, kL_51, kL_81, kS_ok, kI_0, kI_1, kL_0, kS_0, kS_1, ixN_n, ixN_0, ixN_1, k50_ok, k51_ok, rowUp_at, updAt, rowUp_two, updA_two, Nat.add_zero, atV_n, laV_n, atV_0, laV_0, putV_n, plV_n, hasI_n, obind, b2s, xts, eq_self, Nat.reduceAdd, Nat.reduceEqDiff, Nat.reduceMul, Nat.reduceLT, Nat.reduceSub, nI_1, nI_add, pk_mul, nI_sub, nI_s1, nI_m1, lt_t, lt_f, lt0_f, eq0_d, eq1_d, gt0_d, lt_d, eq_d, bI0_d, bI1_d, if_pos, if_neg, true_and, and_true, true_or, or_true, aKd_50, aKd_51, aKd_80, aKd_81, aKd_65, aKd_70, z01_b, z01_e, z01_0, z01_1, SH_100, SH_101, SH_102, SH_103, SH_104, SH_105, SH_106, SH_107, SH_108, SH_109, SH_110, SH_111, SH_282, SH_283, SH_284, SH_285, SH_286, SH_287, SH_414, SH_415, SH_416, SH_417, SH_418, SH_419, SH_420, SH_421, SH_422, SH_423, SH_424, SH_425, SH_426, SH_427, SH_428, SH_429, SH_430, SH_431, SH_432, SH_433, SH_434, SH_435, SH_436, SH_437, SH_438, SH_439, SH_440, SH_441, SH_442, SH_443, SH_444, SH_445, SH_446, SH_447, SH_448, SH_449, SH_450, SH_451, SH_452, SH_453, SH_454, SH_1, SH_2, SH_3, RF_433_0, RF_433_1, RF_433_2, RF_433_3, RF_433_4, RF_433_5, RF_433_6, RF_433_7, RF_433_9, RF_433_23, RF_433_24, RF_433_25, RF_433_26, RF_433_27, RF_433_28, RF_433_29, RF_433_30, RF_433_33, RF_433_34, RF_433_35, RF_433_38, hrow, L117, L150, hr443, hb, hc, ↓nz100, nI_d100, nI_m100', hp1, bI_not, if_false]
      · rw [if_neg k0, if_pos k1]
        intro i hi
        simp only [updA_at]
        by_cases ei : i = h - 1
        · rw [if_pos ei, if_pos ei, hv (h - 1) (by omega)]
        · rw [if_neg ei, if_neg ei]; exact hP i (by omega)
    · rw [if_neg k1] at hok' ⊢
      by_cases k4 : c / 100 = 4
      · rw [if_pos k4] at hok' ⊢
        have hf := of_decide_eq_true hok'
        have m1 : c % 100 % 10 = c % 10 := by omega
        have m2 : c % 100 / 10 = c / 10 % 10 := by omega
        refine ⟨updA P (h - c % 10) (bI (decide (c / 10 % 10 ≤ cntB (fun i => (v (h - c % 10 + i)).1) (c % 10)))), ?_, ?_⟩
        · have e1 := mh_some (σ := σ) (I := I) (L := L) row (nI e) (nI w) (nI s) 0 0 0 P h (c % 100) v h60 (by omega) (by omega) hP
          rw [m1, m2] at e1
          simp (disch := first | assumption | omega) only [↓gI_b, ↓gL_b, ↓gR_b, ↓sI_b, ↓sZ_b, ↓sL_b, ↓aLen_b, ↓ldI_b, ↓ldL_b, ↓ldZ_b, ↓ldR_b, ↓stI_b, ↓stL_b, ↓stZ_b, ↓at_b, ↓put_b, ↓longAt_b, ↓putLong_b, ↓has_b, ↓mhas_b, ↓needSlot_b, ↓reduceIte, hpS_hk, kI_50, kI_80, kL_51, kL_81, kS_ok, kI_0, kI_1, kL_0, kS_0, kS_1, ixN_n, ixN_0, ixN_1, k50_ok, k51_ok, rowUp_at, updAt, rowUp_two, updA_two, Nat.add_zero, atV_n, laV_n, atV_0, laV_0, putV_n, plV_n, hasI_n, obind, b2s, xts, eq_self, Nat.reduceAdd, Nat.reduceEqDiff, Nat.reduceMul, Nat.reduceLT, Nat.reduceSub, nI_1, nI_add, pk_mul, nI_sub, nI_s1, nI_m1, lt_t, lt_f, lt0_f, eq0_d, eq1_d, gt0_d, lt_d, eq_d, bI0_d, bI1_d, if_pos, if_neg, true_and, and_true, true_or, or_true, aKd_50, aKd_51, aKd_80, aKd_81, aKd_65, aKd_70, z01_b, z01_e, z01_0, z01_1, SH_100, SH_101, SH_102, SH_103, SH_104, SH_105, SH_106, SH_107, SH_108, SH_109, SH_110, SH_111, SH_282, SH_283, SH_284, SH_285, SH_286, SH_287, SH_414, SH_415, SH_416, SH_417, SH_418, SH_419, SH_420, SH_421, SH_422, SH_423, SH_424, SH_425, SH_426, SH_427, SH_428, SH_429, SH_430, SH_431, SH_432, SH_433, SH_434, SH_435, SH_436, SH_437, SH_438, SH_439, SH_440, SH_441, SH_442, SH_443, SH_444, SH_445, SH_446, SH_447, SH_448, SH_449, SH_450, SH_451, SH_452, SH_453, SH_454, SH_1, SH_2, SH_3, RF_433_0, RF_433_1, RF_433_2, RF_433_3, RF_433_4, RF_433_5, RF_433_6, RF_433_7, RF_433_9, RF_433_23, RF_433_24, RF_433_25, RF_433_26, RF_433_27, RF_433_28, RF_433_29, RF_433_30, RF_433_33, RF_433_34, RF_433_35, RF_433_38, hrow, L117, L150, hr443, hb, hc, ↓nz100, nI_d100, nI_m100', L4, e1, if_false]
        · rw [if_neg k0, if_neg k1, if_pos k4]
          intro i hi
          simp only [updA_at]
          by_cases ei : i = h - c % 10
          · rw [if_pos ei, if_pos ei]
          · rw [if_neg ei, if_neg ei]; exact hP i (by omega)
      · rw [if_neg k4] at hok' ⊢
        have hf := of_decide_eq_true hok'
        have hp1 := hP (h - 1) (by omega)
        have hp2 := hP (h - 2) (by omega)
        have a1 : h - 1 - 1 = h - 2 := by omega
        by_cases k2 : c / 100 = 2
        · refine ⟨updA P (h - 2) (bI ((v (h - 2)).1 && (v (h - 1)).1)), ?_, ?_⟩
          · simp (disch := first | assumption | omega) only [↓gI_b, ↓gL_b, ↓gR_b, ↓sI_b, ↓sZ_b, ↓sL_b, ↓aLen_b, ↓ldI_b, ↓ldL_b, ↓ldZ_b, ↓ldR_b, ↓stI_b, ↓stL_b, ↓stZ_b, ↓at_b, ↓put_b, ↓longAt_b, ↓putLong_b, ↓has_b, ↓mhas_b, ↓needSlot_b, ↓reduceIte, hpS_hk, kI_50, kI_80, kL_51, kL_81, kS_ok, kI_0, kI_1, kL_0, kS_0, kS_1, ixN_n, ixN_0, ixN_1, k50_ok, k51_ok, rowUp_at, updAt, rowUp_two, updA_two, Nat.add_zero, atV_n, laV_n, atV_0, laV_0, putV_n, plV_n, hasI_n, obind, b2s, xts, eq_self, Nat.reduceAdd, Nat.reduceEqDiff, Nat.reduceMul, Nat.reduceLT, Nat.reduceSub, nI_1, nI_add, pk_mul, nI_sub, nI_s1, nI_m1, lt_t, lt_f, lt0_f, eq0_d, eq1_d, gt0_d, lt_d, eq_d, bI0_d, bI1_d, if_pos, if_neg, true_and, and_true, true_or, or_true, aKd_50, aKd_51, aKd_80, aKd_81, aKd_65, aKd_70, z01_b, z01_e, z01_0, z01_1, SH_100, SH_101, SH_102, SH_103, SH_104, SH_105, SH_106, SH_107, SH_108, SH_109, SH_110, SH_111, SH_282, SH_283, SH_284, SH_285, SH_286, SH_287, SH_414, SH_415, SH_416, SH_417, SH_418, SH_419, SH_420, SH_421, SH_422, SH_423, SH_424, SH_425, SH_426, SH_427, SH_428, SH_429, SH_430, SH_431, SH_432, SH_433, SH_434, SH_435, SH_436, SH_437, SH_438, SH_439, SH_440, SH_441, SH_442, SH_443, SH_444, SH_445, SH_446, SH_447, SH_448, SH_449, SH_450, SH_451, SH_452, SH_453, SH_454, SH_1, SH_2, SH_3, RF_433_0, RF_433_1, RF_433_2, RF_433_3, RF_433_4, RF_433_5, RF_433_6, RF_433_7, RF_433_9, RF_433_23, RF_433_24, RF_433_25, RF_433_26, RF_433_27, RF_433_28, RF_433_29, RF_433_30, RF_433_33, RF_433_34, RF_433_35, RF_433_38, hrow, L117, L150, L2, L4, hr443, hb, hc, ↓nz100, nI_d100, nI_m100', a1, hp1, hp2, bI_and, if_false]
          · rw [if_neg k0, if_neg k1, if_neg k4, if_pos k2]
            intro i hi
            simp only [updA_at]
            by_cases ei : i = h - 2
            · rw [if_pos ei, if_pos ei]
            · rw [if_neg ei, if_neg ei]; exact hP i (by omega)
        · refine ⟨updA P (h - 2) (bI ((v (h - 2)).1 || (v (h - 1)).1)), ?_, ?_⟩
          · simp (disch := first | assumption | omega) only [↓gI_b, ↓gL_b, ↓gR_b, ↓sI_b, ↓sZ_b, ↓sL_b, ↓aLen_b, ↓ldI_b, ↓ldL_b, ↓ldZ_b, ↓ldR_b, ↓stI_b, ↓stL_b, ↓stZ_b, ↓at_b, ↓put_b, ↓longAt_b, ↓putLong_b, ↓has_b, ↓mhas_b, ↓needSlot_b, ↓reduceIte, hpS_hk, kI_50, kI_80, kL_51, kL_81, kS_ok, kI_0, kI_1, kL_0, kS_0, kS_1, ixN_n, ixN_0, ixN_1, k50_ok, k51_ok, rowUp_at, updAt, rowUp_two, updA_two, Nat.add_zero, atV_n, laV_n, atV_0, laV_0, putV_n, plV_n, hasI_n, obind, b2s, xts, eq_self, Nat.reduceAdd, Nat.reduceEqDiff, Nat.reduceMul, Nat.reduceLT, Nat.reduceSub, nI_1, nI_add, pk_mul, nI_sub, nI_s1, nI_m1, lt_t, lt_f, lt0_f, eq0_d, eq1_d, gt0_d, lt_d, eq_d, bI0_d, bI1_d, if_pos, if_neg, true_and, and_true, true_or, or_true, aKd_50, aKd_51, aKd_80, aKd_81, aKd_65, aKd_70, z01_b, z01_e, z01_0, z01_1, SH_100, SH_101, SH_102, SH_103, SH_104, SH_105, SH_106, SH_107, SH_108, SH_109, SH_110, SH_111, SH_282, SH_283, SH_284, SH_285, SH_286, SH_287, SH_414, SH_415, SH_416, SH_417, SH_418, SH_419, SH_420, SH_421, SH_422, SH_423, SH_424, SH_425, SH_426, SH_427, SH_428, SH_429, SH_430, SH_431, SH_432, SH_433, SH_434, SH_435, SH_436, SH_437, SH_438, SH_439, SH_440, SH_441, SH_442, SH_443, SH_444, SH_445, SH_446, SH_447, SH_448, SH_449, SH_450, SH_451, SH_452, SH_453, SH_454, SH_1, SH_2, SH_3, RF_433_0, RF_433_1, RF_433_2, RF_433_3, RF_433_4, RF_433_5, RF_433_6, RF_433_7, RF_433_9, RF_433_23, RF_433_24, RF_433_25, RF_433_26, RF_433_27, RF_433_28, RF_433_29, RF_433_30, RF_433_33, RF_433_34, RF_433_35, RF_433_38, hrow, L117, L150, L2, L4, hr443, hb, hc, ↓nz100, nI_d100, nI_m100', a1, hp1, hp2, bI_or, if_false]
          · rw [if_neg k0, if_neg k1, if_neg k4, if_neg k2]
            intro i hi
            simp only [updA_at]
            by_cases ei : i = h - 2
            · rw [if_pos ei, if_pos ei]
            · rw [if_neg ei, if_neg ei]; exact hP i (by omega)
/-- an EXPR of a row in a world -/
theorem mholds_ok (row : Nat) (hrow : SH (gN σ) row = (50, 640)) (hr443 : row ≠ 443) (cd : Nat → Nat) (e w a b : Nat) (ha : I row (84 + e) = nI a) (hb : I row (117 + e) = nI b) (he : e < 33) (hw : w < 256) (hb490 : b ≤ 490) (hcd : ∀ i, a ≤ i → i < b → I row (150 + i) = nI (cd i)) (hwf : wfE cd a b) :
    ∃ P', mX12_holds 433 row (nI e) (nI w) (hk σ I L) = some (bI (evP (qw w) cd a b).1, hk σ (rowUp I 443 P') L) := by
  have h60 := hAt_le60 hwf.2.1
  have start : mX12_holds 433 row (nI e) (nI w) (hk σ I L) = mX12_holds_l11 433 row (nI e) (nI w) (nI 0) (nI a) (hk σ (rowUp I 443 (I 443)) L) := by
    unfold mX12_holds
    simp (disch := first | assumption | omega) only [↓gI_b, ↓gL_b, ↓gR_b, ↓sI_b, ↓sZ_b, ↓sL_b, ↓aLen_b, ↓ldI_b, ↓ldL_b, ↓ldZ_b, ↓ldR_b, ↓stI_b, ↓stL_b, ↓stZ_b, ↓at_b, ↓put_b, ↓longAt_b, ↓putLong_b, ↓has_b, ↓mhas_b, ↓needSlot_b, ↓reduceIte, hpS_hk, kI_50, kI_80, kL_51, kL_81, kS_ok, kI_0, kI_1, kL_0, kS_0, kS_1, ixN_n, ixN_0, ixN_1, k50_ok, k51_ok, rowUp_at, updAt, rowUp_two, updA_two, Nat.add_zero, atV_n, laV_n, atV_0, laV_0, putV_n, plV_n, hasI_n, obind, b2s, xts, eq_self, Nat.reduceAdd, Nat.reduceEqDiff, Nat.reduceMul, Nat.reduceLT, Nat.reduceSub, nI_1, nI_add, pk_mul, nI_sub, nI_s1, nI_m1, lt_t, lt_f, lt0_f, eq0_d, eq1_d, gt0_d, lt_d, eq_d, bI0_d, bI1_d, if_pos, if_neg, true_and, and_true, true_or, or_true, aKd_50, aKd_51, aKd_80, aKd_81, aKd_65, aKd_70, z01_b, z01_e, z01_0, z01_1, SH_100, SH_101, SH_102, SH_103, SH_104, SH_105, SH_106, SH_107, SH_108, SH_109, SH_110, SH_111, SH_282, SH_283, SH_284, SH_285, SH_286, SH_287, SH_414, SH_415, SH_416, SH_417, SH_418, SH_419, SH_420, SH_421, SH_422, SH_423, SH_424, SH_425, SH_426, SH_427, SH_428, SH_429, SH_430, SH_431, SH_432, SH_433, SH_434, SH_435, SH_436, SH_437, SH_438, SH_439, SH_440, SH_441, SH_442, SH_443, SH_444, SH_445, SH_446, SH_447, SH_448, SH_449, SH_450, SH_451, SH_452, SH_453, SH_454, SH_1, SH_2, SH_3, RF_433_0, RF_433_1, RF_433_2, RF_433_3, RF_433_4, RF_433_5, RF_433_6, RF_433_7, RF_433_9, RF_433_23, RF_433_24, RF_433_25, RF_433_26, RF_433_27, RF_433_28, RF_433_29, RF_433_30, RF_433_33, RF_433_34, RF_433_35, RF_433_38, hrow, L84, ha, rowUp_id, i0]
  rw [start]
  unfold mX12_holds_l11
  have key := lp_inv (f := fun s : Int32 × Int32 × Hp => mX12_holds_l11f 433 row (nI e) (nI w) s.1 s.2.1 s.2.2) (b - a) (fun s st => ∃ P, st = (nI (hAt cd a s), nI (a + s), hk σ (rowUp I 443 P) L) ∧ pileOk P (hAt cd a s) (runV (qw w) cd a s).2 ∧ cmpl (hAt cd a s) (runV (qw w) cd a s).2)
    (fun r => ∃ P', r = (bI (evP (qw w) cd a b).1, hk σ (rowUp I 443 P') L))
    (fun s st hs hQ => by
      obtain ⟨P, rfl, hP, hv⟩ := hQ
      obtain ⟨P', e1, e2⟩ := mh_step row hrow hr443 e w (a + s) (hAt cd a s) (cd (a + s)) b P (runV (qw w) cd a s).2 hb he hw (by omega) hb490 (hcd _ (by omega) (by omega)) (hwf.2.1 s hs) (h60 s (by omega)) hP hv
      have er : ((hAt cd a s), (runV (qw w) cd a s).2) = runV (qw w) cd a s := Prod.ext (runV_h _ _ _ _).symm rfl
      have e3 := cmpl_stp (q := qw w) (fun f => rfl) (hwf.2.1 s hs) hv
      rw [er] at e2 e3
      exact ⟨_, e1, P', rfl, e2, e3⟩)
    (fun st hQ => by
      obtain ⟨P, rfl, hP, hv⟩ := hQ
      refine ⟨_, ?_, P, rfl⟩
      have h1 := hwf.2.2
      have hle := hwf.1
      have hP0 := hP 0 (by omega)
      show mX12_holds_l11f 433 row (nI e) (nI w) (nI (hAt cd a (b - a))) (nI (a + (b - a))) _ = _
      unfold mX12_holds_l11f
      have e1 : ldI row ((117 : Int32) + nI e) (hk σ (rowUp I 443 P) L) = some (nI b) := by
        have hs : hpS (hk σ (rowUp I 443 P) L) row = (50, 640) := hrow
        rw [L117, nI_add, ldI_ok hs (by omega) (by omega), hpI_hk, rowUp_at, if_neg hr443, hb]
      rw [e1, obind, if_neg (nI_nlt (by omega) (by omega))]
      simp (disch := first | assumption | omega) only [↓gI_b, ↓gL_b, ↓gR_b, ↓sI_b, ↓sZ_b, ↓sL_b, ↓aLen_b, ↓ldI_b, ↓ldL_b, ↓ldZ_b, ↓ldR_b, ↓stI_b, ↓stL_b, ↓stZ_b, ↓at_b, ↓put_b, ↓longAt_b, ↓putLong_b, ↓has_b, ↓mhas_b, ↓needSlot_b, ↓reduceIte, hpS_hk, kI_50, kI_80, kL_51, kL_81, kS_ok, kI_0, kI_1, kL_0, kS_0, kS_1, ixN_n, ixN_0, ixN_1, k50_ok, k51_ok, rowUp_at, updAt, rowUp_two, updA_two, Nat.add_zero, atV_n, laV_n, atV_0, laV_0, putV_n, plV_n, hasI_n, obind, b2s, xts, eq_self, Nat.reduceAdd, Nat.reduceEqDiff, Nat.reduceMul, Nat.reduceLT, Nat.reduceSub, nI_1, nI_add, pk_mul, nI_sub, nI_s1, nI_m1, lt_t, lt_f, lt0_f, eq0_d, eq1_d, gt0_d, lt_d, eq_d, bI0_d, bI1_d, if_pos, if_neg, true_and, and_true, true_or, or_true, aKd_50, aKd_51, aKd_80, aKd_81, aKd_65, aKd_70, z01_b, z01_e, z01_0, z01_1, SH_100, SH_101, SH_102, SH_103, SH_104, SH_105, SH_106, SH_107, SH_108, SH_109, SH_110, SH_111, SH_282, SH_283, SH_284, SH_285, SH_286, SH_287, SH_414, SH_415, SH_416, SH_417, SH_418, SH_419, SH_420, SH_421, SH_422, SH_423, SH_424, SH_425, SH_426, SH_427, SH_428, SH_429, SH_430, SH_431, SH_432, SH_433, SH_434, SH_435, SH_436, SH_437, SH_438, SH_439, SH_440, SH_441, SH_442, SH_443, SH_444, SH_445, SH_446, SH_447, SH_448, SH_449, SH_450, SH_451, SH_452, SH_453, SH_454, SH_1, SH_2, SH_3, RF_433_0, RF_433_1, RF_433_2, RF_433_3, RF_433_4, RF_433_5, RF_433_6, RF_433_7, RF_433_9, RF_433_23, RF_433_24, RF_433_25, RF_433_26, RF_433_27, RF_433_28, RF_433_29, RF_433_30, RF_433_33, RF_433_34, RF_433_35, RF_433_38, hP0]
      rfl)
    (s := (nI 0, nI a, hk σ (rowUp I 443 (I 443)) L)) ⟨_, rfl, fun i hi => absurd hi (Nat.not_lt_zero _), fun i hi => absurd hi (Nat.not_lt_zero _)⟩
  obtain ⟨r, e1, P', rfl⟩ := key
  exact ⟨P', e1⟩
end MH
