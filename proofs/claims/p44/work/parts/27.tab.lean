section TAB
variable {σ : Sg} {I : Nat → Nat → Int32} {L : Nat → Nat → Int64}
theorem hAt_le60 {cd : Nat → Nat} {a m : Nat} (h : ∀ s, s < m → hok (cd (a + s)) (hAt cd a s) = true) : ∀ n, n ≤ m → hAt cd a n ≤ 60 := by
  intro n
  induction n with
  | zero => intro _; exact Nat.zero_le _
  | succ n ih =>
    intro hn
    have h1 := ih (by omega)
    have h2 := h n (by omega)
    simp only [hAt]
    unfold hok at h2
    unfold hst
    repeat' split
    all_goals (simp_all <;> omega)
theorem runV_congr {q q' : VP} {cd : Nat → Nat} {a m : Nat} (hq : ∀ f, f < 8 → q f = q' f) (h : ∀ s, s < m → hok (cd (a + s)) (hAt cd a s) = true) : ∀ n, n ≤ m → runV q cd a n = runV q' cd a n := by
  intro n
  induction n with
  | zero => intro _; rfl
  | succ n ih =>
    intro hn
    simp only [runV]
    rw [ih (by omega)]
    have h2 := h n (by omega)
    unfold hok at h2
    unfold stp
    by_cases k0 : cd (a + n) / 100 = 0
    · rw [if_pos k0] at h2
      rw [if_pos k0, if_pos k0, hq _ (of_decide_eq_true h2).1]
    · rw [if_neg k0, if_neg k0]
theorem evP_congr {q q' : VP} {cd : Nat → Nat} {a b : Nat} (hq : ∀ f, f < 8 → q f = q' f) (h : ∀ s, s < b - a → hok (cd (a + s)) (hAt cd a s) = true) : evP q cd a b = evP q' cd a b := by
  unfold evP; rw [runV_congr hq h _ (Nat.le_refl _)]
theorem run_ok {hh : Nat → Int32} {y n z : Nat → Int64} (ca : Nat) (hca : SH (gN σ) ca = (50, 960)) (hc8 : ca ≠ 108) (cd : Nat → Nat) (a b : Nat) (hab : a ≤ b) (hb : b ≤ 960) (hw : ∀ s, s < b - a → hok (cd (a + s)) (hAt cd a s) = true)
    (hcode : ∀ i, a ≤ i → i < b → I ca i = nI (cc (cd i))) (qy qn : Nat → Int64)
    (hq : ∀ hh' y n z, hh' 4 = hh 4 → hh' 5 = hh 5 → hh' 6 = hh 6 → ∀ f, f < 8 → mX4_leafYes 108 (nI f) (sHk σ I L hh' y n z) = some (qy f) ∧ mX4_leafNo 108 (nI f) (sHk σ I L hh' y n z) = some (qn f)) :
    ∃ hh' y' n' z', mX4_run 108 ca (nI a) (nI b) (sHk σ I L hh y n z) = some (sHk σ I L hh' y' n' z') ∧ (hh' 4 = hh 4 ∧ hh' 5 = hh 5 ∧ hh' 6 = hh 6) ∧ (1 ≤ hAt cd a (b - a) → ∀ j, j < 64 → (lb (y' 0) j, lb (n' 0) j) = evP (lq qy qn j) cd a b) := by
  have h60 := hAt_le60 hw
  have start : mX4_run 108 ca (nI a) (nI b) (sHk σ I L hh y n z) = mX4_run_l20 108 ca (nI b) (nI a) (sHk σ I L (updA hh 3 (nI 0)) (updA y 0 0) (updA n 0 0) z) := by
    unfold mX4_run sHk
    simp (disch := first | assumption | omega) only [↓gI_b, ↓gL_b, ↓gR_b, ↓sI_b, ↓sZ_b, ↓sL_b, ↓aLen_b, ↓ldI_b, ↓ldL_b, ↓ldZ_b, ↓ldR_b, ↓stI_b, ↓stL_b, ↓stZ_b, ↓at_b, ↓put_b, ↓longAt_b, ↓putLong_b, ↓has_b, ↓needSlot_b, ↓reduceIte, hpS_hk, kI_50, kI_80, kL_51, kL_81, kS_ok, kI_0, kI_1, kL_0, kS_0, kS_1, ixN_n, ixN_0, ixN_1, k50_ok, k51_ok, rowUp_at, updAt, rowUp_two, updA_two, Nat.add_zero, atV_n, laV_n, atV_0, laV_0, putV_n, plV_n, hasI_n, obind, b2s, xts, eq_self, Nat.reduceAdd, Nat.reduceEqDiff, Nat.reduceMul, Nat.reduceLT, Nat.reduceSub, nI_1, nI_add, pk_mul, nI_sub, nI_s1, nI_m1, lt_t, lt_f, lt0_f, eq0_d, eq1_d, gt0_d, lt_d, eq_d, bI0_d, bI1_d, if_pos, if_neg, true_and, and_true, true_or, or_true, aKd_50, aKd_51, aKd_80, aKd_81, aKd_65, aKd_70, z01_b, z01_e, z01_0, z01_1, SH_100, SH_101, SH_102, SH_103, SH_104, SH_105, SH_106, SH_107, SH_108, SH_109, SH_110, SH_111, SH_282, SH_283, SH_284, SH_285, SH_286, SH_287, SH_414, SH_415, SH_416, SH_417, SH_418, SH_419, SH_420, SH_421, SH_422, SH_423, SH_424, SH_425, SH_426, SH_427, SH_428, SH_429, SH_430, SH_431, SH_432, SH_2, RF_100_0, RF_100_1, RF_100_2, RF_100_3, RF_100_4, RF_100_5, RF_100_6, RF_100_7, RF_100_8, RF_100_9, RF_100_10, RF_100_11, RF_100_12, RF_100_13, RF_100_14, RF_100_15, RF_282_0, RF_282_1, RF_282_2, RF_282_3, RF_282_4, RF_101_0, RF_103_0, RF_103_1, RF_103_2, RF_103_3, RF_108_0, RF_108_1, RF_108_2, RF_283_0, RF_285_0, RF_285_1, RF_414_0, RF_416_0, RF_418_0, RF_420_0, RF_420_1, RF_420_2, RF_420_3, RF_426_0, RF_426_1, RF_426_2, RF_426_3, RF_426_4, i0]
    have e : ∀ (hh' : Nat → Int32), hk σ (rowUp I 108 hh') (rowUp (rowUp (rowUp L 109 y) 110 n) 111 z) = sHk σ I L hh' y n z := fun _ => rfl
    rw [e, replace_ok (σ := σ) (h := 0) (t := 0) _ _ (updA_same _ _ _) (by omega) (by omega) (by omega), Option.bind_some]
    unfold sHk
    simp (disch := first | assumption | omega) only [↓gI_b, ↓gL_b, ↓gR_b, ↓sI_b, ↓sZ_b, ↓sL_b, ↓aLen_b, ↓ldI_b, ↓ldL_b, ↓ldZ_b, ↓ldR_b, ↓stI_b, ↓stL_b, ↓stZ_b, ↓at_b, ↓put_b, ↓longAt_b, ↓putLong_b, ↓has_b, ↓needSlot_b, ↓reduceIte, hpS_hk, kI_50, kI_80, kL_51, kL_81, kS_ok, kI_0, kI_1, kL_0, kS_0, kS_1, ixN_n, ixN_0, ixN_1, k50_ok, k51_ok, rowUp_at, updAt, rowUp_two, updA_two, Nat.add_zero, atV_n, laV_n, atV_0, laV_0, putV_n, plV_n, hasI_n, obind, b2s, xts, eq_self, Nat.reduceAdd, Nat.reduceEqDiff, Nat.reduceMul, Nat.reduceLT, Nat.reduceSub, nI_1, nI_add, pk_mul, nI_sub, nI_s1, nI_m1, lt_t, lt_f, lt0_f, eq0_d, eq1_d, gt0_d, lt_d, eq_d, bI0_d, bI1_d, if_pos, if_neg, true_and, and_true, true_or, or_true, aKd_50, aKd_51, aKd_80, aKd_81, aKd_65, aKd_70, z01_b, z01_e, z01_0, z01_1, SH_100, SH_101, SH_102, SH_103, SH_104, SH_105, SH_106, SH_107, SH_108, SH_109, SH_110, SH_111, SH_282, SH_283, SH_284, SH_285, SH_286, SH_287, SH_414, SH_415, SH_416, SH_417, SH_418, SH_419, SH_420, SH_421, SH_422, SH_423, SH_424, SH_425, SH_426, SH_427, SH_428, SH_429, SH_430, SH_431, SH_432, SH_2, RF_100_0, RF_100_1, RF_100_2, RF_100_3, RF_100_4, RF_100_5, RF_100_6, RF_100_7, RF_100_8, RF_100_9, RF_100_10, RF_100_11, RF_100_12, RF_100_13, RF_100_14, RF_100_15, RF_282_0, RF_282_1, RF_282_2, RF_282_3, RF_282_4, RF_101_0, RF_103_0, RF_103_1, RF_103_2, RF_103_3, RF_108_0, RF_108_1, RF_108_2, RF_283_0, RF_285_0, RF_285_1, RF_414_0, RF_416_0, RF_418_0, RF_420_0, RF_420_1, RF_420_2, RF_420_3, RF_426_0, RF_426_1, RF_426_2, RF_426_3, RF_426_4, i0]
  rw [start]
  unfold mX4_run_l20
  have key := lp_inv (f := fun s : Int32 × Hp => mX4_run_l20f 108 ca (nI b) s.1 s.2) (b - a) (fun s st => ∃ hh' y' n' z', st = (nI (a + s), sHk σ I L hh' y' n' z') ∧ hh' 3 = nI (hAt cd a s) ∧ (hh' 4 = hh 4 ∧ hh' 5 = hh 5 ∧ hh' 6 = hh 6) ∧ relS y' n' (hAt cd a s) (fun j => (runV (lq qy qn j) cd a s).2))
    (fun r => ∃ hh' y' n' z', r = sHk σ I L hh' y' n' z' ∧ (hh' 4 = hh 4 ∧ hh' 5 = hh 5 ∧ hh' 6 = hh 6) ∧ relS y' n' (hAt cd a (b - a)) (fun j => (runV (lq qy qn j) cd a (b - a)).2))
    (fun s st hs hQ => by
      obtain ⟨hh', y', n', z', rfl, e3, e4, hr⟩ := hQ
      obtain ⟨hh2, y2, n2, z2, r1, r2, r3, r4⟩ := run_step ca hca hc8 (cd (a + s)) b (a + s) (hAt cd a s) (hcode _ (by omega) (by omega)) (by omega) hb qy qn (hq hh' y' n' z' e4.1 e4.2.1 e4.2.2) e3 (hw s hs) (h60 s (by omega)) _ hr
      refine ⟨_, r1, hh2, y2, n2, z2, rfl, r2, ⟨r3.1.trans e4.1, r3.2.1.trans e4.2.1, r3.2.2.trans e4.2.2⟩, ?_⟩
      intro i hi j hj
      have h1 := r4 i hi j hj
      simp only at h1 ⊢
      have e : ((hAt cd a s), (runV (lq qy qn j) cd a s).2) = runV (lq qy qn j) cd a s := Prod.ext (runV_h _ _ _ _).symm rfl
      rw [e] at h1
      exact h1)
    (fun st hQ => by
      obtain ⟨hh', y', n', z', rfl, e3, e4, hr⟩ := hQ
      refine ⟨_, ?_, hh', y', n', z', rfl, e4, hr⟩
      show mX4_run_l20f 108 ca (nI b) (nI (a + (b - a))) _ = _
      unfold mX4_run_l20f
      rw [if_neg (nI_pos (by omega)), if_neg (nI_nlt (by omega) (by omega))]; rfl)
    (s := (nI a, sHk σ I L (updA hh 3 (nI 0)) (updA y 0 0) (updA n 0 0) z)) ⟨_, _, _, _, rfl, updA_same _ _ _, ⟨rfl, rfl, rfl⟩, fun i hi => absurd hi (Nat.not_lt_zero _)⟩
  obtain ⟨r, e, hh', y', n', z', rfl, e4, hr⟩ := key
  refine ⟨hh', y', n', z', e, e4, fun h1 j hj => ?_⟩
  have := hr 0 (by omega) j hj
  unfold evP
  exact Prod.ext this.1 this.2
def qw (w : Nat) : VP := fun f => (w.testBit f, !w.testBit f)
theorem leafW {hh : Nat → Int32} {y n z : Nat → Int64} (hS : SOk L) {f i : Nat} (hf : f < 8) (hi : i < 4) (h4 : hh 4 = nI i) :
    mX4_leafYes 108 (nI f) (sHk σ I L hh y n z) = some (soV f i) ∧ mX4_leafNo 108 (nI f) (sHk σ I L hh y n z) = some (soV f i ^^^ (-1)) := by
  have hS2 : SOk (rowUp (rowUp (rowUp L 109 y) 110 n) 111 z) := fun k hk => by
    rw [rowUp_at, if_neg (by omega), rowUp_at, if_neg (by omega), rowUp_at, if_neg (by omega)]; exact hS k hk
  have e := soIn_ok (σ := σ) (I := rowUp I 108 hh) hS2 hf hi
  constructor
  · unfold mX4_leafYes sHk
    simp (disch := first | assumption | omega) only [↓gI_b, ↓gL_b, ↓gR_b, ↓sI_b, ↓sZ_b, ↓sL_b, ↓aLen_b, ↓ldI_b, ↓ldL_b, ↓ldZ_b, ↓ldR_b, ↓stI_b, ↓stL_b, ↓stZ_b, ↓at_b, ↓put_b, ↓longAt_b, ↓putLong_b, ↓has_b, ↓needSlot_b, ↓reduceIte, hpS_hk, kI_50, kI_80, kL_51, kL_81, kS_ok, kI_0, kI_1, kL_0, kS_0, kS_1, ixN_n, ixN_0, ixN_1, k50_ok, k51_ok, rowUp_at, updAt, rowUp_two, updA_two, Nat.add_zero, atV_n, laV_n, atV_0, laV_0, putV_n, plV_n, hasI_n, obind, b2s, xts, eq_self, Nat.reduceAdd, Nat.reduceEqDiff, Nat.reduceMul, Nat.reduceLT, Nat.reduceSub, nI_1, nI_add, pk_mul, nI_sub, nI_s1, nI_m1, lt_t, lt_f, lt0_f, eq0_d, eq1_d, gt0_d, lt_d, eq_d, bI0_d, bI1_d, if_pos, if_neg, true_and, and_true, true_or, or_true, aKd_50, aKd_51, aKd_80, aKd_81, aKd_65, aKd_70, z01_b, z01_e, z01_0, z01_1, SH_100, SH_101, SH_102, SH_103, SH_104, SH_105, SH_106, SH_107, SH_108, SH_109, SH_110, SH_111, SH_282, SH_283, SH_284, SH_285, SH_286, SH_287, SH_414, SH_415, SH_416, SH_417, SH_418, SH_419, SH_420, SH_421, SH_422, SH_423, SH_424, SH_425, SH_426, SH_427, SH_428, SH_429, SH_430, SH_431, SH_432, SH_2, RF_100_0, RF_100_1, RF_100_2, RF_100_3, RF_100_4, RF_100_5, RF_100_6, RF_100_7, RF_100_8, RF_100_9, RF_100_10, RF_100_11, RF_100_12, RF_100_13, RF_100_14, RF_100_15, RF_282_0, RF_282_1, RF_282_2, RF_282_3, RF_282_4, RF_101_0, RF_103_0, RF_103_1, RF_103_2, RF_103_3, RF_108_0, RF_108_1, RF_108_2, RF_283_0, RF_285_0, RF_285_1, RF_414_0, RF_416_0, RF_418_0, RF_420_0, RF_420_1, RF_420_2, RF_420_3, RF_426_0, RF_426_1, RF_426_2, RF_426_3, RF_426_4, h4, eqm1_d, e]
  · unfold mX4_leafNo sHk
    simp (disch := first | assumption | omega) only [↓gI_b, ↓gL_b, ↓gR_b, ↓sI_b, ↓sZ_b, ↓sL_b, ↓aLen_b, ↓ldI_b, ↓ldL_b, ↓ldZ_b, ↓ldR_b, ↓stI_b, ↓stL_b, ↓stZ_b, ↓at_b, ↓put_b, ↓longAt_b, ↓putLong_b, ↓has_b, ↓needSlot_b, ↓reduceIte, hpS_hk, kI_50, kI_80, kL_51, kL_81, kS_ok, kI_0, kI_1, kL_0, kS_0, kS_1, ixN_n, ixN_0, ixN_1, k50_ok, k51_ok, rowUp_at, updAt, rowUp_two, updA_two, Nat.add_zero, atV_n, laV_n, atV_0, laV_0, putV_n, plV_n, hasI_n, obind, b2s, xts, eq_self, Nat.reduceAdd, Nat.reduceEqDiff, Nat.reduceMul, Nat.reduceLT, Nat.reduceSub, nI_1, nI_add, pk_mul, nI_sub, nI_s1, nI_m1, lt_t, lt_f, lt0_f, eq0_d, eq1_d, gt0_d, lt_d, eq_d, bI0_d, bI1_d, if_pos, if_neg, true_and, and_true, true_or, or_true, aKd_50, aKd_51, aKd_80, aKd_81, aKd_65, aKd_70, z01_b, z01_e, z01_0, z01_1, SH_100, SH_101, SH_102, SH_103, SH_104, SH_105, SH_106, SH_107, SH_108, SH_109, SH_110, SH_111, SH_282, SH_283, SH_284, SH_285, SH_286, SH_287, SH_414, SH_415, SH_416, SH_417, SH_418, SH_419, SH_420, SH_421, SH_422, SH_423, SH_424, SH_425, SH_426, SH_427, SH_428, SH_429, SH_430, SH_431, SH_432, SH_2, RF_100_0, RF_100_1, RF_100_2, RF_100_3, RF_100_4, RF_100_5, RF_100_6, RF_100_7, RF_100_8, RF_100_9, RF_100_10, RF_100_11, RF_100_12, RF_100_13, RF_100_14, RF_100_15, RF_282_0, RF_282_1, RF_282_2, RF_282_3, RF_282_4, RF_101_0, RF_103_0, RF_103_1, RF_103_2, RF_103_3, RF_108_0, RF_108_1, RF_108_2, RF_283_0, RF_285_0, RF_285_1, RF_414_0, RF_416_0, RF_418_0, RF_420_0, RF_420_1, RF_420_2, RF_420_3, RF_426_0, RF_426_1, RF_426_2, RF_426_3, RF_426_4, h4, eqm1_d, e]
theorem hk_sHk : hk σ I L = sHk σ I L (I 108) (L 109) (L 110) (L 111) := by
  unfold sHk; rw [rowUp_id, rowUp_id, rowUp_id, rowUp_id]
theorem sHk_p {hh : Nat → Int32} {y n z : Nat → Int64} {p : Nat} (r : Nat → Int64) (h9 : p ≠ 109) (h10 : p ≠ 110) (h11 : p ≠ 111) : hk σ (rowUp I 108 hh) (rowUp (rowUp (rowUp (rowUp L 109 y) 110 n) 111 z) p r) = sHk σ I (rowUp L p r) hh y n z := by
  have : rowUp (rowUp (rowUp (rowUp L 109 y) 110 n) 111 z) p r = rowUp (rowUp (rowUp (rowUp L p r) 109 y) 110 n) 111 z := by
    funext b
    simp only [rowUp_at]
    by_cases e : b = p
    · subst e; rw [if_pos rfl, if_neg h11, if_neg h10, if_neg h9]; simp
    · simp [e]
  rw [this]; rfl
theorem tab_ok (hS : SOk L) (ca : Nat) (hca : SH (gN σ) ca = (50, 960)) (hc8 : ca ≠ 108) (cd : Nat → Nat) (a b : Nat) (hab : a ≤ b) (hb : b ≤ 960) (hw : ∀ s, s < b - a → hok (cd (a + s)) (hAt cd a s) = true)
    (hcode : ∀ i, a ≤ i → i < b → I ca i = nI (cc (cd i))) (wa p : Nat) (hwa : ∀ hh L, isW (hk σ (rowUp I 108 hh) L) wa p) (h2 : p ≠ 2) (h9 : p ≠ 109) (h10 : p ≠ 110) (h11 : p ≠ 111) :
    ∃ hh y n z r, mX4_tabulate 108 ca (nI a) (nI b) wa (hk σ I L) = some (sHk σ I (rowUp L p r) hh y n z) ∧ (1 ≤ hAt cd a (b - a) → Rw r (fun w => (evP (qw w) cd a b).1)) := by
  have h0 : hk σ I L = sHk σ I (rowUp L p (L p)) (I 108) (L 109) (L 110) (L 111) := by rw [rowUp_id]; exact hk_sHk
  have hSr : ∀ r, SOk (rowUp L p r) := fun r k hk => by rw [rowUp_at, if_neg (fun e => h2 e.symm)]; exact hS k hk
  rw [h0]
  unfold mX4_tabulate
  rw [if_pos (show (hpS (sHk σ I (rowUp L p (L p)) (I 108) (L 109) (L 110) (L 111)) 108).1 = 5 from rfl)]
  unfold mX4_tabulate_l3
  have key := lp_inv (f := fun s : Int32 × Hp => mX4_tabulate_l3f 108 ca (nI a) (nI b) wa s.1 s.2) 4 (fun i st => ∃ hh y n z r, st = (nI i, sHk σ I (rowUp L p r) hh y n z) ∧ (1 ≤ hAt cd a (b - a) → ∀ k, k < i → ∀ j, j < 64 → lb (r k) j = (evP (qw (64 * k + j)) cd a b).1))
    (fun h' => ∃ hh y n z r, h' = sHk σ I (rowUp L p r) hh y n z ∧ (1 ≤ hAt cd a (b - a) → ∀ k, k < 4 → ∀ j, j < 64 → lb (r k) j = (evP (qw (64 * k + j)) cd a b).1))
    (fun i st hi hQ => by
      obtain ⟨hh, y, n, z, r, rfl, hr⟩ := hQ
      obtain ⟨hh', y', n', z', e, e4, ev⟩ := run_ok (σ := σ) (I := I) (L := rowUp L p r) (hh := updA hh 4 (nI i)) (y := y) (n := n) (z := z) ca hca hc8 cd a b hab hb hw hcode (fun f => soV f i) (fun f => soV f i ^^^ (-1)) (fun hh2 y2 n2 z2 e4 _ _ f hf => leafW (hSr r) hf hi (by rw [e4]; exact updA_same _ _ _))
      refine ⟨(nI (i + 1), sHk σ I (rowUp L p (updA r i (y' 0))) hh' y' n' z'), ?_, hh', y', n', z', _, rfl, fun h1 k hk j hj => ?_⟩
      · show mX4_tabulate_l3f 108 ca (nI a) (nI b) wa (nI i) (sHk σ I (rowUp L p r) hh y n z) = _
        unfold mX4_tabulate_l3f
        rw [show (4 : Int32) = nI 4 from rfl, c_lt hi (by omega)]
        have s1 : sI 4 4 108 (nI i) (sHk σ I (rowUp L p r) hh y n z) = some (sHk σ I (rowUp L p r) (updA hh 4 (nI i)) y n z) := by
          unfold sHk
          unfold sI
          rw [hpS_hk, if_pos (show (SH (gN σ) 108).1 = 4 + 1 from rfl), upI_hk, rowUp_two, rowUp_same]
        rw [s1, Option.bind_some, e, Option.bind_some]
        have g1 : gR 10 0 wa (sHk σ I (rowUp L p r) hh' y' n' z') = some p := (hwa hh' _).g
        have g3 : mX11_longAt 109 0 (sHk σ I (rowUp L p r) hh' y' n' z') = some (y' 0) := by
          unfold sHk
          rw [longAt_e 109 0 rfl (by rw [SH_109]; decide), SH_109]
          simp (disch := first | assumption | omega) only [↓gI_b, ↓gL_b, ↓gR_b, ↓sI_b, ↓sZ_b, ↓sL_b, ↓aLen_b, ↓ldI_b, ↓ldL_b, ↓ldZ_b, ↓ldR_b, ↓stI_b, ↓stL_b, ↓stZ_b, ↓at_b, ↓put_b, ↓longAt_b, ↓putLong_b, ↓has_b, ↓needSlot_b, ↓reduceIte, hpS_hk, kI_50, kI_80, kL_51, kL_81, kS_ok, kI_0, kI_1, kL_0, kS_0, kS_1, ixN_n, ixN_0, ixN_1, k50_ok, k51_ok, rowUp_at, updAt, rowUp_two, updA_two, Nat.add_zero, atV_n, laV_n, atV_0, laV_0, putV_n, plV_n, hasI_n, obind, b2s, xts, eq_self, Nat.reduceAdd, Nat.reduceEqDiff, Nat.reduceMul, Nat.reduceLT, Nat.reduceSub, nI_1, nI_add, pk_mul, nI_sub, nI_s1, nI_m1, lt_t, lt_f, lt0_f, eq0_d, eq1_d, gt0_d, lt_d, eq_d, bI0_d, bI1_d, if_pos, if_neg, true_and, and_true, true_or, or_true, aKd_50, aKd_51, aKd_80, aKd_81, aKd_65, aKd_70, z01_b, z01_e, z01_0, z01_1, SH_100, SH_101, SH_102, SH_103, SH_104, SH_105, SH_106, SH_107, SH_108, SH_109, SH_110, SH_111, SH_282, SH_283, SH_284, SH_285, SH_286, SH_287, SH_414, SH_415, SH_416, SH_417, SH_418, SH_419, SH_420, SH_421, SH_422, SH_423, SH_424, SH_425, SH_426, SH_427, SH_428, SH_429, SH_430, SH_431, SH_432, SH_2, RF_100_0, RF_100_1, RF_100_2, RF_100_3, RF_100_4, RF_100_5, RF_100_6, RF_100_7, RF_100_8, RF_100_9, RF_100_10, RF_100_11, RF_100_12, RF_100_13, RF_100_14, RF_100_15, RF_282_0, RF_282_1, RF_282_2, RF_282_3, RF_282_4, RF_101_0, RF_103_0, RF_103_1, RF_103_2, RF_103_3, RF_108_0, RF_108_1, RF_108_2, RF_283_0, RF_285_0, RF_285_1, RF_414_0, RF_416_0, RF_418_0, RF_420_0, RF_420_1, RF_420_2, RF_420_3, RF_426_0, RF_426_1, RF_426_2, RF_426_3, RF_426_4]
        have g4 : mX11_putLong p (nI i) (y' 0) (sHk σ I (rowUp L p r) hh' y' n' z') = some (sHk σ I (rowUp L p (updA r i (y' 0))) hh' y' n' z') := by
          have hs : hpS (sHk σ I (rowUp L p r) hh' y' n' z') p = (51, 4) := (hwa hh' L).2.2
          rw [putLong_nI hs (by omega) hi]
          have er : hpL (sHk σ I (rowUp L p r) hh' y' n' z') p = r := by
            show rowUp (rowUp (rowUp (rowUp L p r) 109 y') 110 n') 111 z' p = r
            rw [rowUp_at, if_neg h11, rowUp_at, if_neg h10, rowUp_at, if_neg h9, rowUp_at, if_pos rfl]
          rw [er]
          show some (setL (hk _ _ _) _ _) = _
          rw [setL_hk, sHk_p _ h9 h10 h11, rowUp_two]
        rw [g1, Option.bind_some, gS0, g3, Option.bind_some, g4, Option.bind_some, nI_1]
      · rw [updA_at]
        by_cases ek : k = i
        · subst ek
          rw [if_pos rfl]
          have h3 := ev h1 j hj
          have h4 := congrArg Prod.fst h3
          simp only at h4
          rw [h4]
          rw [evP_congr (q := lq (fun f => soV f k) (fun f => soV f k ^^^ (-1)) j) (q' := qw (64 * k + j)) (fun f hf => ?_) hw]
          unfold lq qw lb
          rw [i64_not _ hj, soV_bit f hf k hi j hj]
        · rw [if_neg ek]; exact hr h1 k (by omega) j hj)
    (fun st hQ => by
      obtain ⟨hh, y, n, z, r, rfl, hr⟩ := hQ
      refine ⟨_, ?_, hh, y, n, z, r, rfl, hr⟩
      show mX4_tabulate_l3f 108 ca (nI a) (nI b) wa (nI 4) _ = _
      unfold mX4_tabulate_l3f
      rw [if_neg (by decide)]; rfl)
    (s := (nI 0, sHk σ I (rowUp L p (L p)) (I 108) (L 109) (L 110) (L 111))) ⟨_, _, _, _, _, rfl, fun _ k hk => by omega⟩
  obtain ⟨h', e, hh, y, n, z, r, rfl, hr⟩ := key
  exact ⟨hh, y, n, z, r, e, fun h1 => wv_set fun i hi j hj => hr h1 i hi j hj⟩
/-- as a count alleges facts -/
def qs (S So : Nat) : VP := fun f => (S.testBit f && So.testBit f, S.testBit f && !So.testBit f)
def code3 (v : Bool × Bool) : Nat := if v.1 then 1 else if v.2 then 0 else 2
theorem leafA {hh : Nat → Int32} {y n z : Nat → Int64} {S So f : Nat} (hS : S < 256) (hSo : So < 256) (hf : f < 8) (h4 : hh 4 = -1) (h5 : hh 5 = nI S) (h6 : hh 6 = nI So) :
    mX4_leafYes 108 (nI f) (sHk σ I L hh y n z) = some (if (qs S So f).1 = true then -1 else 0) ∧ mX4_leafNo 108 (nI f) (sHk σ I L hh y n z) = some (if (qs S So f).2 = true then -1 else 0) := by
  have a1 : S &&& So < 256 := Nat.lt_of_le_of_lt Nat.and_le_left hS
  have a2 : S ^^^ (S &&& So) < 256 := Nat.xor_lt_two_pow (n := 8) hS a1
  constructor
  · unfold mX4_leafYes sHk
    simp (disch := first | assumption | omega) only [↓gI_b, ↓gL_b, ↓gR_b, ↓sI_b, ↓sZ_b, ↓sL_b, ↓aLen_b, ↓ldI_b, ↓ldL_b, ↓ldZ_b, ↓ldR_b, ↓stI_b, ↓stL_b, ↓stZ_b, ↓at_b, ↓put_b, ↓longAt_b, ↓putLong_b, ↓has_b, ↓needSlot_b, ↓reduceIte, hpS_hk, kI_50, kI_80, kL_51, kL_81, kS_ok, kI_0, kI_1, kL_0, kS_0, kS_1, ixN_n, ixN_0, ixN_1, k50_ok, k51_ok, rowUp_at, updAt, rowUp_two, updA_two, Nat.add_zero, atV_n, laV_n, atV_0, laV_0, putV_n, plV_n, hasI_n, obind, b2s, xts, eq_self, Nat.reduceAdd, Nat.reduceEqDiff, Nat.reduceMul, Nat.reduceLT, Nat.reduceSub, nI_1, nI_add, pk_mul, nI_sub, nI_s1, nI_m1, lt_t, lt_f, lt0_f, eq0_d, eq1_d, gt0_d, lt_d, eq_d, bI0_d, bI1_d, if_pos, if_neg, true_and, and_true, true_or, or_true, aKd_50, aKd_51, aKd_80, aKd_81, aKd_65, aKd_70, z01_b, z01_e, z01_0, z01_1, SH_100, SH_101, SH_102, SH_103, SH_104, SH_105, SH_106, SH_107, SH_108, SH_109, SH_110, SH_111, SH_282, SH_283, SH_284, SH_285, SH_286, SH_287, SH_414, SH_415, SH_416, SH_417, SH_418, SH_419, SH_420, SH_421, SH_422, SH_423, SH_424, SH_425, SH_426, SH_427, SH_428, SH_429, SH_430, SH_431, SH_432, SH_2, RF_100_0, RF_100_1, RF_100_2, RF_100_3, RF_100_4, RF_100_5, RF_100_6, RF_100_7, RF_100_8, RF_100_9, RF_100_10, RF_100_11, RF_100_12, RF_100_13, RF_100_14, RF_100_15, RF_282_0, RF_282_1, RF_282_2, RF_282_3, RF_282_4, RF_101_0, RF_103_0, RF_103_1, RF_103_2, RF_103_3, RF_108_0, RF_108_1, RF_108_2, RF_283_0, RF_285_0, RF_285_1, RF_414_0, RF_416_0, RF_418_0, RF_420_0, RF_420_1, RF_420_2, RF_420_3, RF_426_0, RF_426_1, RF_426_2, RF_426_3, RF_426_4, h4, h5, h6, nx_and]
    unfold qs
    rw [Nat.testBit_and]
    cases S.testBit f <;> cases So.testBit f <;> rfl
  · unfold mX4_leafNo sHk
    simp (disch := first | assumption | omega) only [↓gI_b, ↓gL_b, ↓gR_b, ↓sI_b, ↓sZ_b, ↓sL_b, ↓aLen_b, ↓ldI_b, ↓ldL_b, ↓ldZ_b, ↓ldR_b, ↓stI_b, ↓stL_b, ↓stZ_b, ↓at_b, ↓put_b, ↓longAt_b, ↓putLong_b, ↓has_b, ↓needSlot_b, ↓reduceIte, hpS_hk, kI_50, kI_80, kL_51, kL_81, kS_ok, kI_0, kI_1, kL_0, kS_0, kS_1, ixN_n, ixN_0, ixN_1, k50_ok, k51_ok, rowUp_at, updAt, rowUp_two, updA_two, Nat.add_zero, atV_n, laV_n, atV_0, laV_0, putV_n, plV_n, hasI_n, obind, b2s, xts, eq_self, Nat.reduceAdd, Nat.reduceEqDiff, Nat.reduceMul, Nat.reduceLT, Nat.reduceSub, nI_1, nI_add, pk_mul, nI_sub, nI_s1, nI_m1, lt_t, lt_f, lt0_f, eq0_d, eq1_d, gt0_d, lt_d, eq_d, bI0_d, bI1_d, if_pos, if_neg, true_and, and_true, true_or, or_true, aKd_50, aKd_51, aKd_80, aKd_81, aKd_65, aKd_70, z01_b, z01_e, z01_0, z01_1, SH_100, SH_101, SH_102, SH_103, SH_104, SH_105, SH_106, SH_107, SH_108, SH_109, SH_110, SH_111, SH_282, SH_283, SH_284, SH_285, SH_286, SH_287, SH_414, SH_415, SH_416, SH_417, SH_418, SH_419, SH_420, SH_421, SH_422, SH_423, SH_424, SH_425, SH_426, SH_427, SH_428, SH_429, SH_430, SH_431, SH_432, SH_2, RF_100_0, RF_100_1, RF_100_2, RF_100_3, RF_100_4, RF_100_5, RF_100_6, RF_100_7, RF_100_8, RF_100_9, RF_100_10, RF_100_11, RF_100_12, RF_100_13, RF_100_14, RF_100_15, RF_282_0, RF_282_1, RF_282_2, RF_282_3, RF_282_4, RF_101_0, RF_103_0, RF_103_1, RF_103_2, RF_103_3, RF_108_0, RF_108_1, RF_108_2, RF_283_0, RF_285_0, RF_285_1, RF_414_0, RF_416_0, RF_418_0, RF_420_0, RF_420_1, RF_420_2, RF_420_3, RF_426_0, RF_426_1, RF_426_2, RF_426_3, RF_426_4, h4, h5, h6, nx_not (show S < 4294967296 by omega)]
    unfold qs
    rw [Nat.testBit_xor, Nat.testBit_and]
    cases S.testBit f <;> cases So.testBit f <;> rfl
theorem lb_if (b : Bool) {j : Nat} (hj : j < 64) : lb (if b = true then -1 else 0) j = b := by
  cases b
  · exact i64_0 j
  · exact i64_m1 hj
/-- as an element or a plea is seen -/
theorem glance_ok {la slot S So a b : Nat} (hla : isLa la) (hS : S < 256) (hSo : So < 256) (hs : slot < 26) (cd : Nat → Nat) (hab : a ≤ b) (hb : b ≤ 960) (hw : ∀ s, s < b - a → hok (cd (a + s)) (hAt cd a s) = true) (h1 : 1 ≤ hAt cd a (b - a))
    (hcode : ∀ i, a ≤ i → i < b → I (la + 7) i = nI (cc (cd i))) (hfrom : I (la + 8) slot = nI a) (hto : I (la + 9) slot = nI b) :
    ∃ hh y n z, mX4_glance 108 la (nI slot) (nI S) (nI So) (hk σ I L) = some (nI (code3 (evP (qs S So) cd a b)), sHk σ I L hh y n z) := by
  obtain ⟨hh', y', n', z', e, e4, ev⟩ := run_ok (σ := σ) (I := I) (L := L) (hh := updA (updA (updA (I 108) 4 (-1)) 5 (nI S)) 6 (nI So)) (y := L 109) (n := L 110) (z := L 111) (la + 7) (SH_la7 hla) (by omega) cd a b hab hb hw hcode
    (fun f => if (qs S So f).1 = true then -1 else 0) (fun f => if (qs S So f).2 = true then -1 else 0) (fun hh2 y2 n2 z2 e4 e5 e6 f hf => leafA hS hSo hf e4 e5 e6)
  have ev' : ∀ j, j < 64 → (lb (y' 0) j, lb (n' 0) j) = evP (qs S So) cd a b := fun j hj => by
    rw [ev h1 j hj]
    refine evP_congr (fun f hf => ?_) hw
    unfold lq
    rw [lb_if _ hj, lb_if _ hj]
  have ey : y' 0 = 0 ↔ (evP (qs S So) cd a b).1 = false := by
    rw [i64_ext0]
    constructor
    · intro h; have := congrArg Prod.fst (ev' 0 (by omega)); simp only at this; rw [← this]; exact h 0 (by omega)
    · intro h j hj; have := congrArg Prod.fst (ev' j hj); simp only at this; rw [h] at this; exact this
  have en : n' 0 = 0 ↔ (evP (qs S So) cd a b).2 = false := by
    rw [i64_ext0]
    constructor
    · intro h; have := congrArg Prod.snd (ev' 0 (by omega)); simp only at this; rw [← this]; exact h 0 (by omega)
    · intro h j hj; have := congrArg Prod.snd (ev' j hj); simp only at this; rw [h] at this; exact this
  refine ⟨hh', y', n', z', ?_⟩
  unfold mX4_glance
  have start : sHk σ I L (updA (updA (updA (I 108) 4 (-1)) 5 (nI S)) 6 (nI So)) (L 109) (L 110) (L 111) = hk σ (rowUp I 108 (updA (updA (updA (I 108) 4 (-1)) 5 (nI S)) 6 (nI So))) L := by
    unfold sHk; rw [rowUp_id, rowUp_id, rowUp_id]
  rw [start] at e
  simp (disch := first | assumption | omega) only [↓gI_b, ↓gL_b, ↓gR_b, ↓sI_b, ↓sZ_b, ↓sL_b, ↓aLen_b, ↓ldI_b, ↓ldL_b, ↓ldZ_b, ↓ldR_b, ↓stI_b, ↓stL_b, ↓stZ_b, ↓at_b, ↓put_b, ↓longAt_b, ↓putLong_b, ↓has_b, ↓needSlot_b, ↓reduceIte, hpS_hk, kI_50, kI_80, kL_51, kL_81, kS_ok, kI_0, kI_1, kL_0, kS_0, kS_1, ixN_n, ixN_0, ixN_1, k50_ok, k51_ok, rowUp_at, updAt, rowUp_two, updA_two, Nat.add_zero, atV_n, laV_n, atV_0, laV_0, putV_n, plV_n, hasI_n, obind, b2s, xts, eq_self, Nat.reduceAdd, Nat.reduceEqDiff, Nat.reduceMul, Nat.reduceLT, Nat.reduceSub, nI_1, nI_add, pk_mul, nI_sub, nI_s1, nI_m1, lt_t, lt_f, lt0_f, eq0_d, eq1_d, gt0_d, lt_d, eq_d, bI0_d, bI1_d, if_pos, if_neg, true_and, and_true, true_or, or_true, aKd_50, aKd_51, aKd_80, aKd_81, aKd_65, aKd_70, z01_b, z01_e, z01_0, z01_1, SH_100, SH_101, SH_102, SH_103, SH_104, SH_105, SH_106, SH_107, SH_108, SH_109, SH_110, SH_111, SH_282, SH_283, SH_284, SH_285, SH_286, SH_287, SH_414, SH_415, SH_416, SH_417, SH_418, SH_419, SH_420, SH_421, SH_422, SH_423, SH_424, SH_425, SH_426, SH_427, SH_428, SH_429, SH_430, SH_431, SH_432, SH_2, RF_100_0, RF_100_1, RF_100_2, RF_100_3, RF_100_4, RF_100_5, RF_100_6, RF_100_7, RF_100_8, RF_100_9, RF_100_10, RF_100_11, RF_100_12, RF_100_13, RF_100_14, RF_100_15, RF_282_0, RF_282_1, RF_282_2, RF_282_3, RF_282_4, RF_101_0, RF_103_0, RF_103_1, RF_103_2, RF_103_3, RF_108_0, RF_108_1, RF_108_2, RF_283_0, RF_285_0, RF_285_1, RF_414_0, RF_416_0, RF_418_0, RF_420_0, RF_420_1, RF_420_2, RF_420_3, RF_426_0, RF_426_1, RF_426_2, RF_426_3, RF_426_4, SH_la0, SH_la1, SH_la2, SH_la3, SH_la4, SH_la5, SH_la6, SH_la7, SH_la8, SH_la9, SH_la10, SH_la11, SH_la12, SH_la13, SH_la14, SH_la15, SH_laT, SH_laP, RF_la_6, RF_la_7, RF_la_8, RF_la_9, RF_la_10, RF_la_11, RF_la_12, RF_la_14, RF_la_15, RF_la_16, RF_la_17, RF_la_18, RF_la_19, RF_la11, RF_la14, RF_laT, RF_laP, hfrom, hto, e]
  unfold sHk
  simp (disch := first | assumption | omega) only [↓gI_b, ↓gL_b, ↓gR_b, ↓sI_b, ↓sZ_b, ↓sL_b, ↓aLen_b, ↓ldI_b, ↓ldL_b, ↓ldZ_b, ↓ldR_b, ↓stI_b, ↓stL_b, ↓stZ_b, ↓at_b, ↓put_b, ↓longAt_b, ↓putLong_b, ↓has_b, ↓needSlot_b, ↓reduceIte, hpS_hk, kI_50, kI_80, kL_51, kL_81, kS_ok, kI_0, kI_1, kL_0, kS_0, kS_1, ixN_n, ixN_0, ixN_1, k50_ok, k51_ok, rowUp_at, updAt, rowUp_two, updA_two, Nat.add_zero, atV_n, laV_n, atV_0, laV_0, putV_n, plV_n, hasI_n, obind, b2s, xts, eq_self, Nat.reduceAdd, Nat.reduceEqDiff, Nat.reduceMul, Nat.reduceLT, Nat.reduceSub, nI_1, nI_add, pk_mul, nI_sub, nI_s1, nI_m1, lt_t, lt_f, lt0_f, eq0_d, eq1_d, gt0_d, lt_d, eq_d, bI0_d, bI1_d, if_pos, if_neg, true_and, and_true, true_or, or_true, aKd_50, aKd_51, aKd_80, aKd_81, aKd_65, aKd_70, z01_b, z01_e, z01_0, z01_1, SH_100, SH_101, SH_102, SH_103, SH_104, SH_105, SH_106, SH_107, SH_108, SH_109, SH_110, SH_111, SH_282, SH_283, SH_284, SH_285, SH_286, SH_287, SH_414, SH_415, SH_416, SH_417, SH_418, SH_419, SH_420, SH_421, SH_422, SH_423, SH_424, SH_425, SH_426, SH_427, SH_428, SH_429, SH_430, SH_431, SH_432, SH_2, RF_100_0, RF_100_1, RF_100_2, RF_100_3, RF_100_4, RF_100_5, RF_100_6, RF_100_7, RF_100_8, RF_100_9, RF_100_10, RF_100_11, RF_100_12, RF_100_13, RF_100_14, RF_100_15, RF_282_0, RF_282_1, RF_282_2, RF_282_3, RF_282_4, RF_101_0, RF_103_0, RF_103_1, RF_103_2, RF_103_3, RF_108_0, RF_108_1, RF_108_2, RF_283_0, RF_285_0, RF_285_1, RF_414_0, RF_416_0, RF_418_0, RF_420_0, RF_420_1, RF_420_2, RF_420_3, RF_426_0, RF_426_1, RF_426_2, RF_426_3, RF_426_4, SH_la0, SH_la1, SH_la2, SH_la3, SH_la4, SH_la5, SH_la6, SH_la7, SH_la8, SH_la9, SH_la10, SH_la11, SH_la12, SH_la13, SH_la14, SH_la15, SH_laT, SH_laP, RF_la_6, RF_la_7, RF_la_8, RF_la_9, RF_la_10, RF_la_11, RF_la_12, RF_la_14, RF_la_15, RF_la_16, RF_la_17, RF_la_18, RF_la_19, RF_la11, RF_la14, RF_laT, RF_laP, lg_cmp0, ey, en]
  unfold code3
  cases (evP (qs S So) cd a b).1 <;> cases (evP (qs S So) cd a b).2 <;> rfl
end TAB
