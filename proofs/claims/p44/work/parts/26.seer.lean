/-! what steps of code do, over pairs (it is yes, it is no), places as in the rows of both sides -/
abbrev VP : Type := Nat → Bool × Bool
def stp (q : VP) (c : Nat) (s : Nat × VP) : Nat × VP :=
  if c / 100 = 0 then (s.1 + 1, updA s.2 s.1 (q (c % 100)))
  else if c / 100 = 1 then (s.1, updA s.2 (s.1 - 1) ((s.2 (s.1 - 1)).2, (s.2 (s.1 - 1)).1))
  else if c / 100 = 4 then (s.1 - c % 10 + 1, updA s.2 (s.1 - c % 10) (decide (c / 10 % 10 ≤ cntB (fun i => (s.2 (s.1 - c % 10 + i)).1) (c % 10)), decide (c % 10 + 1 ≤ c / 10 % 10 + cntB (fun i => (s.2 (s.1 - c % 10 + i)).2) (c % 10))))
  else if c / 100 = 2 then (s.1 - 1, updA s.2 (s.1 - 2) ((s.2 (s.1 - 2)).1 && (s.2 (s.1 - 1)).1, (s.2 (s.1 - 2)).2 || (s.2 (s.1 - 1)).2))
  else (s.1 - 1, updA s.2 (s.1 - 2) ((s.2 (s.1 - 2)).1 || (s.2 (s.1 - 1)).1, (s.2 (s.1 - 2)).2 && (s.2 (s.1 - 1)).2))
def hst (c h : Nat) : Nat := if c / 100 = 0 then h + 1 else if c / 100 = 1 then h else if c / 100 = 4 then h - c % 10 + 1 else h - 1
def hok (c h : Nat) : Bool := if c / 100 = 0 then decide (c % 100 < 8 ∧ h < 60) else if c / 100 = 1 then decide (1 ≤ h) else if c / 100 = 4 then decide (1 ≤ c % 10 ∧ c % 10 ≤ 6 ∧ c % 10 ≤ h ∧ c / 10 % 10 ≤ 6) else decide (2 ≤ h ∧ c / 100 < 4)
/-- n steps from a on -/
def runV (q : VP) (cd : Nat → Nat) (a : Nat) : Nat → Nat × VP
  | 0 => (0, fun _ => (false, false))
  | n + 1 => stp q (cd (a + n)) (runV q cd a n)
def hAt (cd : Nat → Nat) (a : Nat) : Nat → Nat
  | 0 => 0
  | n + 1 => hst (cd (a + n)) (hAt cd a n)
theorem runV_h (q : VP) (cd : Nat → Nat) (a n : Nat) : (runV q cd a n).1 = hAt cd a n := by
  induction n with
  | zero => rfl
  | succ n ih =>
    simp only [runV, hAt, stp, hst, ← ih]
    repeat' split
    all_goals rfl
def wfE (cd : Nat → Nat) (a b : Nat) : Prop := a ≤ b ∧ (∀ n, n < b - a → hok (cd (a + n)) (hAt cd a n) = true) ∧ hAt cd a (b - a) = 1
theorem wfE.le60 {cd : Nat → Nat} {a b : Nat} (h : wfE cd a b) : ∀ n, n ≤ b - a → hAt cd a n ≤ 60 := by
  intro n
  induction n with
  | zero => intro _; exact Nat.zero_le _
  | succ n ih =>
    intro hn
    have h1 := ih (by omega)
    have h2 := h.2.1 n (by omega)
    simp only [hAt]
    unfold hok at h2
    unfold hst
    repeat' split
    all_goals (simp_all <;> omega)
def evP (q : VP) (cd : Nat → Nat) (a b : Nat) : Bool × Bool := (runV q cd a (b - a)).2 0
/-- a step as the class has it -/
def cc (c : Nat) : Nat := if c / 100 = 0 then c % 100 else if c / 100 = 1 then 8 else if c / 100 = 4 then 16 + 8 * (c / 10 % 10) + c % 10 else if c / 100 = 2 then 9 else 10
section SEER
variable {σ : Sg} {I : Nat → Nat → Int32} {L : Nat → Nat → Int64}
/-- the seer's heap -/
def sHk (σ : Sg) (I : Nat → Nat → Int32) (L : Nat → Nat → Int64) (hh : Nat → Int32) (y n z : Nat → Int64) : Hp := hk σ (rowUp I 108 hh) (rowUp (rowUp (rowUp L 109 y) 110 n) 111 z)
theorem replace_ok {hh : Nat → Int32} {y n z : Nat → Int64} {h t : Nat} (Y N : Int64) (hh3 : hh 3 = nI h) (ht : t ≤ h) (h64 : h - t < 64) (h31 : h < 1000) :
    mX4_replace 108 (nI t) Y N (sHk σ I L hh y n z) = some (sHk σ I L (updA hh 3 (nI (h - t + 1))) (updA y (h - t) Y) (updA n (h - t) N) z) := by
  unfold mX4_replace mX4_replace_b62 sHk
  simp (disch := first | assumption | omega) only [↓gI_b, ↓gL_b, ↓gR_b, ↓sI_b, ↓sZ_b, ↓sL_b, ↓aLen_b, ↓ldI_b, ↓ldL_b, ↓ldZ_b, ↓ldR_b, ↓stI_b, ↓stL_b, ↓stZ_b, ↓at_b, ↓put_b, ↓longAt_b, ↓putLong_b, ↓has_b, ↓needSlot_b, ↓reduceIte, hpS_hk, kI_50, kI_80, kL_51, kL_81, kS_ok, kI_0, kI_1, kL_0, kS_0, kS_1, ixN_n, ixN_0, ixN_1, k50_ok, k51_ok, rowUp_at, updAt, rowUp_two, updA_two, Nat.add_zero, atV_n, laV_n, atV_0, laV_0, putV_n, plV_n, hasI_n, obind, b2s, xts, eq_self, Nat.reduceAdd, Nat.reduceEqDiff, Nat.reduceMul, Nat.reduceLT, Nat.reduceSub, nI_1, nI_add, pk_mul, nI_sub, nI_s1, nI_m1, lt_t, lt_f, lt0_f, eq0_d, eq1_d, gt0_d, lt_d, eq_d, bI0_d, bI1_d, if_pos, if_neg, true_and, and_true, true_or, or_true, aKd_50, aKd_51, aKd_80, aKd_81, aKd_65, aKd_70, z01_b, z01_e, z01_0, z01_1, SH_100, SH_101, SH_102, SH_103, SH_104, SH_105, SH_106, SH_107, SH_108, SH_109, SH_110, SH_111, SH_282, SH_283, SH_284, SH_285, SH_286, SH_287, SH_414, SH_415, SH_416, SH_417, SH_418, SH_419, SH_420, SH_421, SH_422, SH_423, SH_424, SH_425, SH_426, SH_427, SH_428, SH_429, SH_430, SH_431, SH_432, SH_2, RF_100_0, RF_100_1, RF_100_2, RF_100_3, RF_100_4, RF_100_5, RF_100_6, RF_100_7, RF_100_8, RF_100_9, RF_100_10, RF_100_11, RF_100_12, RF_100_13, RF_100_14, RF_100_15, RF_282_0, RF_282_1, RF_282_2, RF_282_3, RF_282_4, RF_101_0, RF_103_0, RF_103_1, RF_103_2, RF_103_3, RF_108_0, RF_108_1, RF_108_2, RF_283_0, RF_285_0, RF_285_1, RF_414_0, RF_416_0, RF_418_0, RF_420_0, RF_420_1, RF_420_2, RF_420_3, RF_426_0, RF_426_1, RF_426_2, RF_426_3, RF_426_4, hh3] <;> try simp (disch := omega) only [rowUp_sw, rowUp_two, updA_two, Nat.add_zero]
theorem top_ok {hh : Nat → Int32} {y n z : Nat → Int64} {h t : Nat} (hh3 : hh 3 = nI h) (ht : t + 1 ≤ h) (h64 : h ≤ 64) (row : Nat) (hr : row = 109 ∨ row = 110) :
    mX4_top 108 row (nI t) (sHk σ I L hh y n z) = some ((if row = 109 then y else n) (h - 1 - t)) := by
  unfold mX4_top sHk
  rcases hr with rfl | rfl <;> simp (disch := first | assumption | omega) only [↓gI_b, ↓gL_b, ↓gR_b, ↓sI_b, ↓sZ_b, ↓sL_b, ↓aLen_b, ↓ldI_b, ↓ldL_b, ↓ldZ_b, ↓ldR_b, ↓stI_b, ↓stL_b, ↓stZ_b, ↓at_b, ↓put_b, ↓longAt_b, ↓putLong_b, ↓has_b, ↓needSlot_b, ↓reduceIte, hpS_hk, kI_50, kI_80, kL_51, kL_81, kS_ok, kI_0, kI_1, kL_0, kS_0, kS_1, ixN_n, ixN_0, ixN_1, k50_ok, k51_ok, rowUp_at, updAt, rowUp_two, updA_two, Nat.add_zero, atV_n, laV_n, atV_0, laV_0, putV_n, plV_n, hasI_n, obind, b2s, xts, eq_self, Nat.reduceAdd, Nat.reduceEqDiff, Nat.reduceMul, Nat.reduceLT, Nat.reduceSub, nI_1, nI_add, pk_mul, nI_sub, nI_s1, nI_m1, lt_t, lt_f, lt0_f, eq0_d, eq1_d, gt0_d, lt_d, eq_d, bI0_d, bI1_d, if_pos, if_neg, true_and, and_true, true_or, or_true, aKd_50, aKd_51, aKd_80, aKd_81, aKd_65, aKd_70, z01_b, z01_e, z01_0, z01_1, SH_100, SH_101, SH_102, SH_103, SH_104, SH_105, SH_106, SH_107, SH_108, SH_109, SH_110, SH_111, SH_282, SH_283, SH_284, SH_285, SH_286, SH_287, SH_414, SH_415, SH_416, SH_417, SH_418, SH_419, SH_420, SH_421, SH_422, SH_423, SH_424, SH_425, SH_426, SH_427, SH_428, SH_429, SH_430, SH_431, SH_432, SH_2, RF_100_0, RF_100_1, RF_100_2, RF_100_3, RF_100_4, RF_100_5, RF_100_6, RF_100_7, RF_100_8, RF_100_9, RF_100_10, RF_100_11, RF_100_12, RF_100_13, RF_100_14, RF_100_15, RF_282_0, RF_282_1, RF_282_2, RF_282_3, RF_282_4, RF_101_0, RF_103_0, RF_103_1, RF_103_2, RF_103_3, RF_108_0, RF_108_1, RF_108_2, RF_283_0, RF_285_0, RF_285_1, RF_414_0, RF_416_0, RF_418_0, RF_420_0, RF_420_1, RF_420_2, RF_420_3, RF_426_0, RF_426_1, RF_426_2, RF_426_3, RF_426_4, hh3] <;> try simp (disch := omega) only [rowUp_sw, rowUp_two, updA_two, Nat.add_zero]
theorem top0_ok {hh : Nat → Int32} {y n z : Nat → Int64} {h : Nat} (hh3 : hh 3 = nI h) (ht : 1 ≤ h) (h64 : h ≤ 64) (row : Nat) (hr : row = 109 ∨ row = 110) :
    mX4_top 108 row 0 (sHk σ I L hh y n z) = some ((if row = 109 then y else n) (h - 1)) := top_ok (t := 0) hh3 ht h64 row hr
theorem top1_ok {hh : Nat → Int32} {y n z : Nat → Int64} {h : Nat} (hh3 : hh 3 = nI h) (ht : 2 ≤ h) (h64 : h ≤ 64) (row : Nat) (hr : row = 109 ∨ row = 110) :
    mX4_top 108 row 1 (sHk σ I L hh y n z) = some ((if row = 109 then y else n) (h - 2)) := by
  have := top_ok (σ := σ) (I := I) (L := L) (y := y) (n := n) (z := z) (t := 1) hh3 ht h64 row hr
  rw [show h - 1 - 1 = h - 2 by omega] at this
  exact this
theorem cntB_rev (g : Nat → Bool) (m : Nat) : cntB (fun t => g (m - 1 - t)) m = cntB g m := by
  induction m generalizing g with
  | zero => rfl
  | succ m ih =>
    have e1 : cntB g (m + 1) = cntB g 1 + cntB (fun i => g (1 + i)) m := by rw [Nat.add_comm m 1, cntB_add]
    have e2 : cntB (fun t => g (m + 1 - 1 - t)) (m + 1) = cntB (fun t => g (m + 1 - 1 - t)) m + (if g (m + 1 - 1 - m) = true then 1 else 0) := rfl
    have e3 : cntB (fun t => g (m + 1 - 1 - t)) m = cntB (fun t => (fun i => g (1 + i)) (m - 1 - t)) m := cntB_congr fun t ht => by
      show g (m + 1 - 1 - t) = g (1 + (m - 1 - t))
      congr 1; omega
    rw [e1, e2, e3, ih (fun i => g (1 + i)), show m + 1 - 1 - m = 0 by omega]
    simp only [cntB]
    omega
def lb (x : Int64) (j : Nat) : Bool := x.toBitVec.getLsbD j
def zS (z : Nat → Int64) (one : Int64) (s : Nat) : Nat → Int64 := fun t => if 6 - s < t ∧ t ≤ 6 then z t ||| (z (t - 1) &&& one) else z t
theorem atLeast_in {hh : Nat → Int32} {y n z : Nat → Int64} (x1 : Int32) (x2 : Nat) (x3 : Int32) (i : Nat) (one : Int64) :
    mX4_atLeast_l80 108 x1 x2 x3 (nI i) one (nI 6) (sHk σ I L hh y n z) = some (.inl (nI (i + 1), sHk σ I L hh y n (zS z one 6))) := by
  unfold mX4_atLeast_l80
  have key := lp_traj (f := fun s : Int32 × Hp => mX4_atLeast_l80f 108 x1 x2 x3 (nI i) one s.1 s.2) 6 (fun s => (nI (6 - s), sHk σ I L hh y n (zS z one s))) (.inl (nI (i + 1), sHk σ I L hh y n (zS z one 6))) (fun s hs => ?_) ?_
  · have e0 : zS z one 0 = z := by funext t; unfold zS; rw [if_neg (by omega)]
    rw [e0] at key; exact key
  · show mX4_atLeast_l80f 108 x1 x2 x3 (nI i) one (nI (6 - s)) _ = _
    have e1 : zS z one (s + 1) = updA (zS z one s) (6 - s) (z (6 - s) ||| (z (6 - s - 1) &&& one)) := by
      funext t; unfold zS; rw [updA_at]
      by_cases h1 : t = 6 - s
      · subst h1; rw [if_pos (by omega), if_pos rfl]
      · rw [if_neg h1]
        by_cases h2 : 6 - s < t ∧ t ≤ 6
        · rw [if_pos h2, if_pos (by omega)]
        · rw [if_neg h2, if_neg (by omega)]
    have e2 : zS z one s (6 - s) = z (6 - s) := by unfold zS; rw [if_neg (by omega)]
    have e3 : zS z one s (6 - s - 1) = z (6 - s - 1) := by unfold zS; rw [if_neg (by omega)]
    rw [e1]
    unfold mX4_atLeast_l80f sHk
    rw [show 6 - (s + 1) = 6 - s - 1 by omega]
    simp (disch := first | assumption | omega) only [↓gI_b, ↓gL_b, ↓gR_b, ↓sI_b, ↓sZ_b, ↓sL_b, ↓aLen_b, ↓ldI_b, ↓ldL_b, ↓ldZ_b, ↓ldR_b, ↓stI_b, ↓stL_b, ↓stZ_b, ↓at_b, ↓put_b, ↓longAt_b, ↓putLong_b, ↓has_b, ↓needSlot_b, ↓reduceIte, hpS_hk, kI_50, kI_80, kL_51, kL_81, kS_ok, kI_0, kI_1, kL_0, kS_0, kS_1, ixN_n, ixN_0, ixN_1, k50_ok, k51_ok, rowUp_at, updAt, rowUp_two, updA_two, Nat.add_zero, atV_n, laV_n, atV_0, laV_0, putV_n, plV_n, hasI_n, obind, b2s, xts, eq_self, Nat.reduceAdd, Nat.reduceEqDiff, Nat.reduceMul, Nat.reduceLT, Nat.reduceSub, nI_1, nI_add, pk_mul, nI_sub, nI_s1, nI_m1, lt_t, lt_f, lt0_f, eq0_d, eq1_d, gt0_d, lt_d, eq_d, bI0_d, bI1_d, if_pos, if_neg, true_and, and_true, true_or, or_true, aKd_50, aKd_51, aKd_80, aKd_81, aKd_65, aKd_70, z01_b, z01_e, z01_0, z01_1, SH_100, SH_101, SH_102, SH_103, SH_104, SH_105, SH_106, SH_107, SH_108, SH_109, SH_110, SH_111, SH_282, SH_283, SH_284, SH_285, SH_286, SH_287, SH_414, SH_415, SH_416, SH_417, SH_418, SH_419, SH_420, SH_421, SH_422, SH_423, SH_424, SH_425, SH_426, SH_427, SH_428, SH_429, SH_430, SH_431, SH_432, SH_2, RF_100_0, RF_100_1, RF_100_2, RF_100_3, RF_100_4, RF_100_5, RF_100_6, RF_100_7, RF_100_8, RF_100_9, RF_100_10, RF_100_11, RF_100_12, RF_100_13, RF_100_14, RF_100_15, RF_282_0, RF_282_1, RF_282_2, RF_282_3, RF_282_4, RF_101_0, RF_103_0, RF_103_1, RF_103_2, RF_103_3, RF_108_0, RF_108_1, RF_108_2, RF_283_0, RF_285_0, RF_285_1, RF_414_0, RF_416_0, RF_418_0, RF_420_0, RF_420_1, RF_420_2, RF_420_3, RF_426_0, RF_426_1, RF_426_2, RF_426_3, RF_426_4, e2, e3] <;> try simp (disch := omega) only [rowUp_sw, rowUp_two, updA_two, Nat.add_zero]
  · show mX4_atLeast_l80f 108 x1 x2 x3 (nI i) one (nI (6 - 6)) _ = _
    unfold mX4_atLeast_l80f
    rw [if_neg (by decide), nI_1]; rfl
def zT (r : Nat → Int64) (h : Nat) (z : Nat → Int64) : Nat → Nat → Int64
  | 0 => fun i => if i < 7 then (if i = 0 then -1 else 0) else z i
  | i + 1 => zS (zT r h z i) (r (h - 1 - i)) 6
theorem zT_bit (r : Nat → Int64) (h : Nat) (z : Nat → Int64) (b : Nat) (hb : b < 64) : ∀ i j, j ≤ 6 → lb (zT r h z i j) b = decide (j ≤ cntB (fun t => lb (r (h - 1 - t)) b) i) := by
  intro i
  induction i with
  | zero =>
    intro j hj
    show lb (if j < 7 then (if j = 0 then -1 else 0) else z j) b = decide (j ≤ 0)
    rw [if_pos (by omega)]
    by_cases h0 : j = 0
    · subst h0; rw [if_pos rfl]; exact i64_m1 hb
    · rw [if_neg h0, decide_eq_false (by omega)]; exact i64_0 b
  | succ i ih =>
    intro j hj
    show lb (if 6 - 6 < j ∧ j ≤ 6 then zT r h z i j ||| (zT r h z i (j - 1) &&& r (h - 1 - i)) else zT r h z i j) b = decide (j ≤ cntB (fun t => lb (r (h - 1 - t)) b) i + (if lb (r (h - 1 - i)) b = true then 1 else 0))
    by_cases h0 : 6 - 6 < j ∧ j ≤ 6
    · rw [if_pos h0]
      have e : lb (zT r h z i j ||| (zT r h z i (j - 1) &&& r (h - 1 - i))) b = (lb (zT r h z i j) b || (lb (zT r h z i (j - 1)) b && lb (r (h - 1 - i)) b)) := by
        unfold lb; rw [i64_or, i64_and]
      rw [e, ih j hj, ih (j - 1) (by omega)]
      generalize cntB (fun t => lb (r (h - 1 - t)) b) i = c
      cases lb (r (h - 1 - i)) b
      · simp
      · simp only [Bool.and_true, if_true]
        by_cases h1 : j ≤ c
        · simp [h1, show j ≤ c + 1 by omega]
        · by_cases h2 : j ≤ c + 1
          · simp [h1, h2, show j - 1 ≤ c by omega]
          · simp [h1, h2, show ¬ j - 1 ≤ c by omega]
    · rw [if_neg h0, ih j hj]
      have : j = 0 := by omega
      subst this; simp
theorem atLeast_ok {hh : Nat → Int32} {y n z : Nat → Int64} {h m : Nat} (k : Int32) (hh3 : hh 3 = nI h) (hm : m ≤ 6) (hmh : m ≤ h) (h64 : h ≤ 64) (row : Nat) (hr : row = 109 ∨ row = 110) :
    ∃ V z', mX4_atLeast 108 k row (nI m) (sHk σ I L hh y n z) = some (V, sHk σ I L hh y n z') ∧ ∀ j, j < 64 → lb V j = decide (k.toInt ≤ cntB (fun i => lb ((if row = 109 then y else n) (h - m + i)) j) m) := by
  have hS : (hpS (sHk σ I L hh y n z) 108).1 = 5 := rfl
  by_cases hk : 0 < k
  · obtain ⟨q, hq, rfl⟩ := nI_of (x := k) (fun hn => by
      have h1 := Int32.lt_iff_toInt_lt.mp hk; have h2 := Int32.lt_iff_toInt_lt.mp hn; omega)
    rw [nI_toInt hq]
    have hq0 : 0 < q := by
      rcases Nat.eq_zero_or_pos q with e | e
      · subst e; exact absurd hk (by decide)
      · exact e
    by_cases hmq : m < q
    · refine ⟨0, z, ?_, fun j hj => ?_⟩
      · unfold mX4_atLeast
        rw [if_pos hS, if_pos hk, c_lt hmq hq]
      · have := cntB_le (fun i => lb ((if row = 109 then y else n) (h - m + i)) j) m
        rw [decide_eq_false (by omega)]; exact i64_0 j
    · have init : mX4_atLeast_l18 108 (nI q) row (nI m) 0 (sHk σ I L hh y n z) = mX4_atLeast_l56 108 (nI q) row (nI m) 0 (sHk σ I L hh y n (zT (if row = 109 then y else n) h z 0)) := by
        unfold mX4_atLeast_l18
        have step : ∀ i, i < 7 → mX4_atLeast_l18f 108 (nI q) row (nI m) (nI i) (sHk σ I L hh y n (fun t => if t < i then (if t = 0 then -1 else 0) else z t)) = some (.inl (nI (i + 1), sHk σ I L hh y n (fun t => if t < i + 1 then (if t = 0 then -1 else 0) else z t))) := by
          intro i hi
          have e1 : (fun t => if t < i + 1 then (if t = 0 then (-1 : Int64) else 0) else z t) = updA (fun t => if t < i then (if t = 0 then (-1 : Int64) else 0) else z t) i (if i = 0 then -1 else 0) := by
            funext t; rw [updA_at]
            by_cases h1 : t = i
            · subst h1; rw [if_pos (by omega), if_pos rfl]
            · rw [if_neg h1]
              by_cases h2 : t < i
              · rw [if_pos h2, if_pos (by omega)]
              · rw [if_neg h2, if_neg (by omega)]
          rw [e1]
          unfold mX4_atLeast_l18f mX4_atLeast_b46 sHk
          by_cases h0 : i = 0
          · subst h0; simp (disch := first | assumption | omega) only [↓gI_b, ↓gL_b, ↓gR_b, ↓sI_b, ↓sZ_b, ↓sL_b, ↓aLen_b, ↓ldI_b, ↓ldL_b, ↓ldZ_b, ↓ldR_b, ↓stI_b, ↓stL_b, ↓stZ_b, ↓at_b, ↓put_b, ↓longAt_b, ↓putLong_b, ↓has_b, ↓needSlot_b, ↓reduceIte, hpS_hk, kI_50, kI_80, kL_51, kL_81, kS_ok, kI_0, kI_1, kL_0, kS_0, kS_1, ixN_n, ixN_0, ixN_1, k50_ok, k51_ok, rowUp_at, updAt, rowUp_two, updA_two, Nat.add_zero, atV_n, laV_n, atV_0, laV_0, putV_n, plV_n, hasI_n, obind, b2s, xts, eq_self, Nat.reduceAdd, Nat.reduceEqDiff, Nat.reduceMul, Nat.reduceLT, Nat.reduceSub, nI_1, nI_add, pk_mul, nI_sub, nI_s1, nI_m1, lt_t, lt_f, lt0_f, eq0_d, eq1_d, gt0_d, lt_d, eq_d, bI0_d, bI1_d, if_pos, if_neg, true_and, and_true, true_or, or_true, aKd_50, aKd_51, aKd_80, aKd_81, aKd_65, aKd_70, z01_b, z01_e, z01_0, z01_1, SH_100, SH_101, SH_102, SH_103, SH_104, SH_105, SH_106, SH_107, SH_108, SH_109, SH_110, SH_111, SH_282, SH_283, SH_284, SH_285, SH_286, SH_287, SH_414, SH_415, SH_416, SH_417, SH_418, SH_419, SH_420, SH_421, SH_422, SH_423, SH_424, SH_425, SH_426, SH_427, SH_428, SH_429, SH_430, SH_431, SH_432, SH_2, RF_100_0, RF_100_1, RF_100_2, RF_100_3, RF_100_4, RF_100_5, RF_100_6, RF_100_7, RF_100_8, RF_100_9, RF_100_10, RF_100_11, RF_100_12, RF_100_13, RF_100_14, RF_100_15, RF_282_0, RF_282_1, RF_282_2, RF_282_3, RF_282_4, RF_101_0, RF_103_0, RF_103_1, RF_103_2, RF_103_3, RF_108_0, RF_108_1, RF_108_2, RF_283_0, RF_285_0, RF_285_1, RF_414_0, RF_416_0, RF_418_0, RF_420_0, RF_420_1, RF_420_2, RF_420_3, RF_426_0, RF_426_1, RF_426_2, RF_426_3, RF_426_4] <;> try simp (disch := omega) only [rowUp_sw, rowUp_two, updA_two, Nat.add_zero]
          · simp (disch := first | assumption | omega) only [↓gI_b, ↓gL_b, ↓gR_b, ↓sI_b, ↓sZ_b, ↓sL_b, ↓aLen_b, ↓ldI_b, ↓ldL_b, ↓ldZ_b, ↓ldR_b, ↓stI_b, ↓stL_b, ↓stZ_b, ↓at_b, ↓put_b, ↓longAt_b, ↓putLong_b, ↓has_b, ↓needSlot_b, ↓reduceIte, hpS_hk, kI_50, kI_80, kL_51, kL_81, kS_ok, kI_0, kI_1, kL_0, kS_0, kS_1, ixN_n, ixN_0, ixN_1, k50_ok, k51_ok, rowUp_at, updAt, rowUp_two, updA_two, Nat.add_zero, atV_n, laV_n, atV_0, laV_0, putV_n, plV_n, hasI_n, obind, b2s, xts, eq_self, Nat.reduceAdd, Nat.reduceEqDiff, Nat.reduceMul, Nat.reduceLT, Nat.reduceSub, nI_1, nI_add, pk_mul, nI_sub, nI_s1, nI_m1, lt_t, lt_f, lt0_f, eq0_d, eq1_d, gt0_d, lt_d, eq_d, bI0_d, bI1_d, if_pos, if_neg, true_and, and_true, true_or, or_true, aKd_50, aKd_51, aKd_80, aKd_81, aKd_65, aKd_70, z01_b, z01_e, z01_0, z01_1, SH_100, SH_101, SH_102, SH_103, SH_104, SH_105, SH_106, SH_107, SH_108, SH_109, SH_110, SH_111, SH_282, SH_283, SH_284, SH_285, SH_286, SH_287, SH_414, SH_415, SH_416, SH_417, SH_418, SH_419, SH_420, SH_421, SH_422, SH_423, SH_424, SH_425, SH_426, SH_427, SH_428, SH_429, SH_430, SH_431, SH_432, SH_2, RF_100_0, RF_100_1, RF_100_2, RF_100_3, RF_100_4, RF_100_5, RF_100_6, RF_100_7, RF_100_8, RF_100_9, RF_100_10, RF_100_11, RF_100_12, RF_100_13, RF_100_14, RF_100_15, RF_282_0, RF_282_1, RF_282_2, RF_282_3, RF_282_4, RF_101_0, RF_103_0, RF_103_1, RF_103_2, RF_103_3, RF_108_0, RF_108_1, RF_108_2, RF_283_0, RF_285_0, RF_285_1, RF_414_0, RF_416_0, RF_418_0, RF_420_0, RF_420_1, RF_420_2, RF_420_3, RF_426_0, RF_426_1, RF_426_2, RF_426_3, RF_426_4, h0, if_false] <;> try simp (disch := omega) only [rowUp_sw, rowUp_two, updA_two, Nat.add_zero]
        have go : ∀ d i, i + d = 7 → lp (fun s : Int32 × Hp => mX4_atLeast_l18f 108 (nI q) row (nI m) s.1 s.2) (nI i, sHk σ I L hh y n (fun t => if t < i then (if t = 0 then -1 else 0) else z t)) = mX4_atLeast_l56 108 (nI q) row (nI m) 0 (sHk σ I L hh y n (zT (if row = 109 then y else n) h z 0)) := by
          intro d
          induction d with
          | zero =>
            intro i hi
            have : i = 7 := by omega
            subst this
            refine lp_xt ?_
            show mX4_atLeast_l18f 108 (nI q) row (nI m) (nI 7) (sHk σ I L hh y n (fun t => if t < 7 then (if t = 0 then -1 else 0) else z t)) = _
            unfold mX4_atLeast_l18f
            rw [show gR 4 2 108 (sHk σ I L hh y n (fun t => if t < 7 then (if t = 0 then -1 else 0) else z t)) = some 111 from rfl, Option.bind_some, show aLen 111 (sHk σ I L hh y n (fun t => if t < 7 then (if t = 0 then -1 else 0) else z t)) = some (nI 7) from rfl, Option.bind_some, if_neg (by decide)]
            rfl
          | succ d ih =>
            intro i hi
            rw [lp_inl (step i (by omega))]
            exact ih (i + 1) (by omega)
        have := go 7 0 (by omega)
        have e0 : (fun t => if t < 0 then (if t = 0 then (-1 : Int64) else 0) else z t) = z := by funext t; rw [if_neg (by omega)]
        rw [e0] at this
        exact this
      refine ⟨zT (if row = 109 then y else n) h z m q, zT (if row = 109 then y else n) h z m, ?_, fun j hj => ?_⟩
      · unfold mX4_atLeast
        rw [if_pos hS, if_pos hk, c_nlt (i := m) (n := q) (by omega) (by omega), init]
        unfold mX4_atLeast_l56
        refine lp_traj (f := fun s : Int32 × Hp => mX4_atLeast_l56f 108 (nI q) row (nI m) s.1 s.2) m (fun i => (nI i, sHk σ I L hh y n (zT (if row = 109 then y else n) h z i))) _ (fun i hi => ?_) ?_
        · show mX4_atLeast_l56f 108 (nI q) row (nI m) (nI i) _ = _
          unfold mX4_atLeast_l56f
          rw [c_lt hi (by omega), top_ok hh3 (by omega) h64 row hr, Option.bind_some]
          have e7 : aLen 111 (sHk σ I L hh y n (zT (if row = 109 then y else n) h z i)) = some (nI 7) := rfl
          rw [show gR 4 2 108 (sHk σ I L hh y n (zT (if row = 109 then y else n) h z i)) = some 111 from rfl, Option.bind_some, e7, Option.bind_some, nI_s1 (by omega)]
          exact atLeast_in _ _ _ _ _
        · show mX4_atLeast_l56f 108 (nI q) row (nI m) (nI m) _ = _
          unfold mX4_atLeast_l56f
          rw [c_nlt (Nat.le_refl _) (by omega)]
          unfold sHk
          simp (disch := first | assumption | omega) only [↓gI_b, ↓gL_b, ↓gR_b, ↓sI_b, ↓sZ_b, ↓sL_b, ↓aLen_b, ↓ldI_b, ↓ldL_b, ↓ldZ_b, ↓ldR_b, ↓stI_b, ↓stL_b, ↓stZ_b, ↓at_b, ↓put_b, ↓longAt_b, ↓putLong_b, ↓has_b, ↓needSlot_b, ↓reduceIte, hpS_hk, kI_50, kI_80, kL_51, kL_81, kS_ok, kI_0, kI_1, kL_0, kS_0, kS_1, ixN_n, ixN_0, ixN_1, k50_ok, k51_ok, rowUp_at, updAt, rowUp_two, updA_two, Nat.add_zero, atV_n, laV_n, atV_0, laV_0, putV_n, plV_n, hasI_n, obind, b2s, xts, eq_self, Nat.reduceAdd, Nat.reduceEqDiff, Nat.reduceMul, Nat.reduceLT, Nat.reduceSub, nI_1, nI_add, pk_mul, nI_sub, nI_s1, nI_m1, lt_t, lt_f, lt0_f, eq0_d, eq1_d, gt0_d, lt_d, eq_d, bI0_d, bI1_d, if_pos, if_neg, true_and, and_true, true_or, or_true, aKd_50, aKd_51, aKd_80, aKd_81, aKd_65, aKd_70, z01_b, z01_e, z01_0, z01_1, SH_100, SH_101, SH_102, SH_103, SH_104, SH_105, SH_106, SH_107, SH_108, SH_109, SH_110, SH_111, SH_282, SH_283, SH_284, SH_285, SH_286, SH_287, SH_414, SH_415, SH_416, SH_417, SH_418, SH_419, SH_420, SH_421, SH_422, SH_423, SH_424, SH_425, SH_426, SH_427, SH_428, SH_429, SH_430, SH_431, SH_432, SH_2, RF_100_0, RF_100_1, RF_100_2, RF_100_3, RF_100_4, RF_100_5, RF_100_6, RF_100_7, RF_100_8, RF_100_9, RF_100_10, RF_100_11, RF_100_12, RF_100_13, RF_100_14, RF_100_15, RF_282_0, RF_282_1, RF_282_2, RF_282_3, RF_282_4, RF_101_0, RF_103_0, RF_103_1, RF_103_2, RF_103_3, RF_108_0, RF_108_1, RF_108_2, RF_283_0, RF_285_0, RF_285_1, RF_414_0, RF_416_0, RF_418_0, RF_420_0, RF_420_1, RF_420_2, RF_420_3, RF_426_0, RF_426_1, RF_426_2, RF_426_3, RF_426_4] <;> try simp (disch := omega) only [rowUp_sw, rowUp_two, updA_two, Nat.add_zero]
      · rw [zT_bit _ _ _ _ hj m q (by omega)]
        have e : cntB (fun t => lb ((if row = 109 then y else n) (h - 1 - t)) j) m = cntB (fun i => lb ((if row = 109 then y else n) (h - m + i)) j) m := by
          rw [← cntB_rev (fun i => lb ((if row = 109 then y else n) (h - m + i)) j) m]
          apply cntB_congr
          intro t ht
          show lb ((if row = 109 then y else n) (h - 1 - t)) j = lb ((if row = 109 then y else n) (h - m + (m - 1 - t))) j
          rw [show h - 1 - t = h - m + (m - 1 - t) by omega]
        rw [e]
        simp
  · refine ⟨-1, z, ?_, fun j hj => ?_⟩
    · unfold mX4_atLeast
      rw [if_pos hS, if_neg hk]
    · have h1 : ¬ (0 : Int) < k.toInt := fun h => hk (Int32.lt_iff_toInt_lt.mpr h)
      rw [decide_eq_true (by omega)]; exact i64_m1 hj
theorem gS0 {ρ : Type} {hh : Nat → Int32} {y n z : Nat → Int64} (f : Nat → Option ρ) : (gR 4 0 108 (sHk σ I L hh y n z)).bind f = f 109 := rfl
theorem gS1 {ρ : Type} {hh : Nat → Int32} {y n z : Nat → Int64} (f : Nat → Option ρ) : (gR 4 1 108 (sHk σ I L hh y n z)).bind f = f 110 := rfl
theorem t09 : (109 : Nat) = 109 ∨ (109 : Nat) = 110 := Or.inl rfl
theorem t10 : (110 : Nat) = 109 ∨ (110 : Nat) = 110 := Or.inr rfl
theorem ofC {l m : Nat} (hl : l ≤ 6) (hm : m ≤ 6) : (nI (16 + 8 * l + m) - 16) >>> ((3 : Int32) &&& 31) = nI l ∧ (nI (16 + 8 * l + m) - 16) &&& (7 : Int32) = nI m := by
  have k : ∀ l, l < 7 → ∀ m, m < 7 → (nI (16 + 8 * l + m) - 16) >>> ((3 : Int32) &&& 31) = nI l ∧ (nI (16 + 8 * l + m) - 16) &&& (7 : Int32) = nI m := by decide +kernel
  exact k l (by omega) m (by omega)
theorem restC {l m : Nat} (hl : l ≤ 6) (hm : m ≤ 6) : ((nI m - nI l) + 1).toInt = (m : Int) + 1 - l := by
  have k : ∀ l, l < 7 → ∀ m, m < 7 → ((nI m - nI l) + 1).toInt = (m : Int) + 1 - l := by decide +kernel
  exact k l (by omega) m (by omega)
/-- the leaves' values are right for each bit -/
def lq (qy qn : Nat → Int64) (j : Nat) : VP := fun f => (lb (qy f) j, lb (qn f) j)
def relS (y n : Nat → Int64) (h : Nat) (v : Nat → VP) : Prop := ∀ i, i < h → ∀ j, j < 64 → lb (y i) j = (v j i).1 ∧ lb (n i) j = (v j i).2
theorem run_step {hh : Nat → Int32} {y n z : Nat → Int64} (ca : Nat) (hca : SH (gN σ) ca = (50, 960)) (hc8 : ca ≠ 108) (c b s h : Nat) (hc : I ca s = nI (cc c)) (hs : s < b) (hb : b ≤ 960)
    (qy qn : Nat → Int64) (hq : ∀ f, f < 8 → mX4_leafYes 108 (nI f) (sHk σ I L hh y n z) = some (qy f) ∧ mX4_leafNo 108 (nI f) (sHk σ I L hh y n z) = some (qn f))
    (hh3 : hh 3 = nI h) (hok' : hok c h = true) (h60 : h ≤ 60) (v : Nat → VP) (hr : relS y n h v) :
    ∃ hh' y' n' z', mX4_run_l20f 108 ca (nI b) (nI s) (sHk σ I L hh y n z) = some (.inl (nI (s + 1), sHk σ I L hh' y' n' z')) ∧ hh' 3 = nI (hst c h) ∧ (hh' 4 = hh 4 ∧ hh' 5 = hh 5 ∧ hh' 6 = hh 6) ∧ relS y' n' (hst c h) (fun j => (stp (lq qy qn j) c (h, v j)).2) := by
  have pre : ∀ K : Int32 → Option ((Int32 × Hp) ⊕ Hp), (if nI s < 0 then xt (some (sHk σ I L hh y n z)) else if nI s < nI b then (aLen ca (sHk σ I L hh y n z)).bind fun v5 => if nI s < v5 then (ldI ca (nI s) (sHk σ I L hh y n z)).bind K else xt (some (sHk σ I L hh y n z)) else xt (some (sHk σ I L hh y n z))) = K (nI (cc c)) := by
    intro K
    have hS : hpS (sHk σ I L hh y n z) ca = (50, 960) := hca
    rw [if_neg (nI_pos (by omega)), c_lt hs (by omega), aLen_ok hS rfl, Option.bind_some, c_lt (by omega) (by omega), ldI_ok hS (by omega) (by omega), Option.bind_some]
    have : hpI (sHk σ I L hh y n z) ca s = I ca s := by
      show rowUp I 108 hh ca s = _
      rw [rowUp_at, if_neg hc8]
    rw [this, hc]
  have upd : ∀ (k : Nat) (Y N : Int64) (V : Nat → Bool × Bool), (∀ j, j < 64 → (lb Y j, lb N j) = V j) → ∀ i, (i = k ∨ i < h) → ∀ j, j < 64 → lb (updA y k Y i) j = (updA (v j) k (V j) i).1 ∧ lb (updA n k N i) j = (updA (v j) k (V j) i).2 := by
    intro k Y N V hV i hi j hj
    rw [updA_at, updA_at, updA_at]
    by_cases e : i = k
    · rw [if_pos e, if_pos e, if_pos e, ← hV j hj]; exact ⟨rfl, rfl⟩
    · rw [if_neg e, if_neg e, if_neg e]; exact hr i (by omega) j hj
  unfold mX4_run_l20f
  simp only [mX4_run_b264]
  rw [pre]
  unfold hok at hok'
  by_cases k0 : c / 100 = 0
  · rw [if_pos k0] at hok'
    have hf := of_decide_eq_true hok'
    have ec : cc c = c % 100 := by unfold cc; rw [if_pos k0]
    have es : hst c h = h + 1 := by unfold hst; rw [if_pos k0]
    refine ⟨updA hh 3 (nI (h - 0 + 1)), updA y (h - 0) (qy (c % 100)), updA n (h - 0) (qn (c % 100)), z, ?_, ?_, ⟨rfl, rfl, rfl⟩, ?_⟩
    · rw [ec, if_pos (show nI (c % 100) < (8 : Int32) from nI_lt (b := 8) hf.1 (by omega)), (hq _ hf.1).1, Option.bind_some, (hq _ hf.1).2, Option.bind_some]
      rw [show (0 : Int32) = nI 0 from rfl, replace_ok _ _ hh3 (by omega) (by omega) (by omega), Option.bind_some, nI_1]
    · rw [es]; rfl
    · rw [es]
      intro i hi j hj
      have e : (stp (lq qy qn j) c (h, v j)).2 = updA (v j) h (lq qy qn j (c % 100)) := by unfold stp; rw [if_pos k0]
      simp only [e]
      exact upd h _ _ (fun j => lq qy qn j (c % 100)) (fun j hj => rfl) i (by omega) j hj
  · rw [if_neg k0] at hok'
    by_cases k1 : c / 100 = 1
    · rw [if_pos k1] at hok'
      have hf := of_decide_eq_true hok'
      have ec : cc c = 8 := by unfold cc; rw [if_neg k0, if_pos k1]
      have es : hst c h = h := by unfold hst; rw [if_neg k0, if_pos k1]
      refine ⟨updA hh 3 (nI (h - 1 + 1)), updA y (h - 1) (n (h - 1)), updA n (h - 1) (y (h - 1)), z, ?_, ?_, ⟨rfl, rfl, rfl⟩, ?_⟩
      · rw [ec, if_neg (by decide), if_pos (by rfl), gS1, top0_ok hh3 (by omega) (by omega) 110 t10, Option.bind_some, gS0, top0_ok hh3 (by omega) (by omega) 109 t09, Option.bind_some, if_neg (by decide), if_pos rfl]
        rw [show (1 : Int32) = nI 1 from rfl, replace_ok _ _ hh3 (by omega) (by omega) (by omega), Option.bind_some, nI_add]
      · rw [es]; show nI (h - 1 + 1) = nI h; congr 1; omega
      · rw [es]
        intro i hi j hj
        have e : (stp (lq qy qn j) c (h, v j)).2 = updA (v j) (h - 1) ((v j (h - 1)).2, (v j (h - 1)).1) := by unfold stp; rw [if_neg k0, if_pos k1]
        simp only [e]
        exact upd (h - 1) _ _ (fun j => ((v j (h - 1)).2, (v j (h - 1)).1)) (fun j hj => by rw [(hr (h - 1) (by omega) j hj).1, (hr (h - 1) (by omega) j hj).2]) i (by omega) j hj
    · rw [if_neg k1] at hok'
      by_cases k4 : c / 100 = 4
      · rw [if_pos k4] at hok'
        have hf := of_decide_eq_true hok'
        have ec : cc c = 16 + 8 * (c / 10 % 10) + c % 10 := by unfold cc; rw [if_neg k0, if_neg k1, if_pos k4]
        have es : hst c h = h - c % 10 + 1 := by unfold hst; rw [if_neg k0, if_neg k1, if_pos k4]
        obtain ⟨o1, o2⟩ := ofC (l := c / 10 % 10) (m := c % 10) (by omega) (by omega)
        obtain ⟨V1, z1, a1, b1⟩ := atLeast_ok (σ := σ) (I := I) (L := L) (y := y) (n := n) (z := z) (m := c % 10) (nI (c / 10 % 10)) hh3 (by omega) (by omega) (by omega) 109 t09
        obtain ⟨V2, z2, a2, b2'⟩ := atLeast_ok (σ := σ) (I := I) (L := L) (y := y) (n := n) (z := z1) (m := c % 10) ((nI (c % 10) - nI (c / 10 % 10)) + 1) hh3 (by omega) (by omega) (by omega) 110 t10
        refine ⟨updA hh 3 (nI (h - c % 10 + 1)), updA y (h - c % 10) V1, updA n (h - c % 10) V2, z2, ?_, ?_, ⟨rfl, rfl, rfl⟩, ?_⟩
        · have q8 : ∀ q : Nat, 16 ≤ q → q < 1000 → ¬ nI q < 8 ∧ ¬ nI q = 8 ∧ ¬ nI q = 9 ∧ ¬ nI q = 10 := fun q h1 h2 => ⟨nI_nlt (b := 8) (by omega) (by omega), fun e => by have := (nI_eq (b := 8) (by omega) (by omega)).mp e; omega, fun e => by have := (nI_eq (b := 9) (by omega) (by omega)).mp e; omega, fun e => by have := (nI_eq (b := 10) (by omega) (by omega)).mp e; omega⟩
          have q9 := q8 (16 + 8 * (c / 10 % 10) + c % 10) (by omega) (by omega)
          rw [ec, if_neg q9.1, if_neg q9.2.1, if_neg q9.2.2.1, if_neg q9.2.2.2, gS0, o1, o2, a1, b2_some, gS1, a2, b2_some, replace_ok _ _ hh3 (by omega) (by omega) (by omega), Option.bind_some, nI_1]
        · rw [es]; rfl
        · rw [es]
          intro i hi j hj
          have e : (stp (lq qy qn j) c (h, v j)).2 = updA (v j) (h - c % 10) (decide (c / 10 % 10 ≤ cntB (fun i => (v j (h - c % 10 + i)).1) (c % 10)), decide (c % 10 + 1 ≤ c / 10 % 10 + cntB (fun i => (v j (h - c % 10 + i)).2) (c % 10))) := by unfold stp; rw [if_neg k0, if_neg k1, if_pos k4]
          simp only [e]
          refine upd (h - c % 10) _ _ (fun j => (decide (c / 10 % 10 ≤ cntB (fun i => (v j (h - c % 10 + i)).1) (c % 10)), decide (c % 10 + 1 ≤ c / 10 % 10 + cntB (fun i => (v j (h - c % 10 + i)).2) (c % 10)))) (fun j hj => ?_) i (by omega) j hj
          rw [b1 j hj, b2' j hj, nI_toInt (by omega), restC (by omega) (by omega)]
          have c1 : cntB (fun i => lb ((if 109 = 109 then y else n) (h - c % 10 + i)) j) (c % 10) = cntB (fun i => (v j (h - c % 10 + i)).1) (c % 10) := cntB_congr fun t ht => by
            rw [if_pos rfl]; exact (hr _ (by omega) j hj).1
          have c2 : cntB (fun i => lb ((if 110 = 109 then y else n) (h - c % 10 + i)) j) (c % 10) = cntB (fun i => (v j (h - c % 10 + i)).2) (c % 10) := cntB_congr fun t ht => by
            rw [if_neg (by decide)]; exact (hr _ (by omega) j hj).2
          rw [c1, c2]
          refine Prod.ext ?_ ?_
          · exact decide_eq_decide.mpr (by omega)
          · exact decide_eq_decide.mpr (by omega)
      · rw [if_neg k4] at hok'
        have hf := of_decide_eq_true hok'
        have es : hst c h = h - 1 := by unfold hst; rw [if_neg k0, if_neg k1, if_neg k4]
        by_cases k2 : c / 100 = 2
        · have ec : cc c = 9 := by unfold cc; rw [if_neg k0, if_neg k1, if_neg k4, if_pos k2]
          refine ⟨updA hh 3 (nI (h - 2 + 1)), updA y (h - 2) (y (h - 2) &&& y (h - 1)), updA n (h - 2) (n (h - 2) ||| n (h - 1)), z, ?_, ?_, ⟨rfl, rfl, rfl⟩, ?_⟩
          · rw [ec, if_neg (by decide), if_neg (by decide), if_pos (by rfl), gS0, top1_ok hh3 (by omega) (by omega) 109 t09, Option.bind_some, gS0, top0_ok hh3 (by omega) (by omega) 109 t09, Option.bind_some, gS1, top1_ok hh3 (by omega) (by omega) 110 t10, Option.bind_some, gS1, top0_ok hh3 (by omega) (by omega) 110 t10, Option.bind_some]
            rw [show (2 : Int32) = nI 2 from rfl, replace_ok _ _ hh3 (by omega) (by omega) (by omega), Option.bind_some, nI_1]; rfl
          · rw [es]; show nI (h - 2 + 1) = nI (h - 1); congr 1; omega
          · rw [es]
            intro i hi j hj
            have e : (stp (lq qy qn j) c (h, v j)).2 = updA (v j) (h - 2) ((v j (h - 2)).1 && (v j (h - 1)).1, (v j (h - 2)).2 || (v j (h - 1)).2) := by unfold stp; rw [if_neg k0, if_neg k1, if_neg k4, if_pos k2]
            simp only [e]
            refine upd (h - 2) _ _ (fun j => ((v j (h - 2)).1 && (v j (h - 1)).1, (v j (h - 2)).2 || (v j (h - 1)).2)) (fun j hj => ?_) i (by omega) j hj
            rw [← (hr (h - 2) (by omega) j hj).1, ← (hr (h - 2) (by omega) j hj).2, ← (hr (h - 1) (by omega) j hj).1, ← (hr (h - 1) (by omega) j hj).2]
            unfold lb; rw [i64_and, i64_or]
        · have ec : cc c = 10 := by unfold cc; rw [if_neg k0, if_neg k1, if_neg k4, if_neg k2]
          refine ⟨updA hh 3 (nI (h - 2 + 1)), updA y (h - 2) (y (h - 2) ||| y (h - 1)), updA n (h - 2) (n (h - 2) &&& n (h - 1)), z, ?_, ?_, ⟨rfl, rfl, rfl⟩, ?_⟩
          · rw [ec, if_neg (by decide), if_neg (by decide), if_neg (by decide), if_pos (by rfl), gS0, top1_ok hh3 (by omega) (by omega) 109 t09, Option.bind_some, gS0, top0_ok hh3 (by omega) (by omega) 109 t09, Option.bind_some, gS1, top1_ok hh3 (by omega) (by omega) 110 t10, Option.bind_some, gS1, top0_ok hh3 (by omega) (by omega) 110 t10, Option.bind_some]
            rw [show (2 : Int32) = nI 2 from rfl, replace_ok _ _ hh3 (by omega) (by omega) (by omega), Option.bind_some, nI_1]; rfl
          · rw [es]; show nI (h - 2 + 1) = nI (h - 1); congr 1; omega
          · rw [es]
            intro i hi j hj
            have e : (stp (lq qy qn j) c (h, v j)).2 = updA (v j) (h - 2) ((v j (h - 2)).1 || (v j (h - 1)).1, (v j (h - 2)).2 && (v j (h - 1)).2) := by unfold stp; rw [if_neg k0, if_neg k1, if_neg k4, if_neg k2]
            simp only [e]
            refine upd (h - 2) _ _ (fun j => ((v j (h - 2)).1 || (v j (h - 1)).1, (v j (h - 2)).2 && (v j (h - 1)).2)) (fun j hj => ?_) i (by omega) j hj
            rw [← (hr (h - 2) (by omega) j hj).1, ← (hr (h - 2) (by omega) j hj).2, ← (hr (h - 1) (by omega) j hj).1, ← (hr (h - 1) (by omega) j hj).2]
            unfold lb; rw [i64_and, i64_or]
end SEER
