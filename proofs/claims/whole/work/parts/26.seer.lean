/-! what steps of code do, over pairs (it is yes, it is no), places as in the rows of both sides -/
abbrev VP : Type := Nat → Bool × Bool
def stp (q : VP) (c : Nat) (s : Nat × VP) : Nat × VP :=
  if c / 100 = 0 then (s.1 + 1, updA s.2 s.1 (q (c % 100)))
  else if c / 100 = 1 then (s.1, updA s.2 (s.1 - 1) ((s.2 (s.1 - 1)).2, (s.2 (s.1 - 1)).1))
  else if c / 100 = 4 then (s.1 - c % 10 + 1, updA s.2 (s.1 - c % 10) (decide (c / 10 % 10 ≤ cntB (fun i => (s.2 (s.1 - c % 10 + i)).1) (c % 10)), decide (c % 10 + 1 ≤ c / 10 % 10 + cntB (fun i => (s.2 (s.1 - c % 10 + i)).2) (c % 10))))
  else if c / 100 = 2 then (s.1 - 1, updA s.2 (s.1 - 2) ((s.2 (s.1 - 2)).1 && (s.2 (s.1 - 1)).1, (s.2 (s.1 - 2)).2 || (s.2 (s.1 - 1)).2))
  else (s.1 - 1, updA s.2 (s.1 - 2) ((s.2 (s.1 - 2)).1 || (s.2 (s.1 - 1)).1, (s.2 (s.1 - 2)).2 && (s.2 (s.1 - 1)).2))
def hst (c h : Nat) : Nat := if c / 100 = 0 then h + 1 else if c / 100 = 1 then h else if c / 100 = 4 then h - c % 10 + 1 else h - 1
def hok (c h : Nat) : Bool := if c / 100 = 0 then decide (c % 100 < 8 ∧ h < 60) else if c / 100 = 1 then decide (1 ≤ h) else if c / 100 = 4 then decide (1 ≤ c % 10 ∧ c % 10 ≤ 6 ∧ c % 10 ≤ h ∧ c / 10 % 10 ≤ 6) else decide (2 ≤ h ∧ c / 100 < 4)
/-- n steps from a on -/
def runV (q : VP) (cd : Nat → Nat) (a : Nat) : Nat → Nat × VP
  | 0 => (0, fun _ => (false, false))
  | n + 1 => stp q (cd (a + n)) (runV q cd a n)
def hAt (cd : Nat → Nat) (a : Nat) : Nat → Nat
  | 0 => 0
  | n + 1 => hst (cd (a + n)) (hAt cd a n)
theorem runV_h (q : VP) (cd : Nat → Nat) (a n : Nat) : (runV q cd a n).1 = hAt cd a n := by
  induction n with
  | zero => rfl
  | succ n ih =>
    simp only [runV, hAt, stp, hst, ← ih]
    repeat' split
    all_goals rfl
def wfE (cd : Nat → Nat) (a b : Nat) : Prop := a ≤ b ∧ (∀ n, n < b - a → hok (cd (a + n)) (hAt cd a n) = true) ∧ hAt cd a (b - a) = 1
theorem wfE.le60 {cd : Nat → Nat} {a b : Nat} (h : wfE cd a b) : ∀ n, n ≤ b - a → hAt cd a n ≤ 60 := by
  intro n
  induction n with
  | zero => intro _; exact Nat.zero_le _
  | succ n ih =>
    intro hn
    have h1 := ih (by omega)
    have h2 := h.2.1 n (by omega)
    simp only [hAt]
    unfold hok at h2
    unfold hst
    repeat' split
    all_goals (simp_all <;> omega)
def evP (q : VP) (cd : Nat → Nat) (a b : Nat) : Bool × Bool := (runV q cd a (b - a)).2 0
/-- a step as the class has it -/
def cc (c : Nat) : Nat := if c / 100 = 0 then c % 100 else if c / 100 = 1 then 8 else if c / 100 = 4 then 16 + 8 * (c / 10 % 10) + c % 10 else if c / 100 = 2 then 9 else 10
section SEER
variable {σ : Sg} {I : Nat → Nat → Int32} {L : Nat → Nat → Int64}
/-- the seer's heap -/
def sHk (σ : Sg) (I : Nat → Nat → Int32) (L : Nat → Nat → Int64) (hh : Nat → Int32) (y n z : Nat → Int64) : Hp := hk σ (rowUp I 108 hh) (rowUp (rowUp (rowUp L 109 y) 110 n) 111 z)
theorem replace_ok {hh : Nat → Int32} {y n z : Nat → Int64} {h t : Nat} (Y N : Int64) (hh3 : hh 3 = nI h) (ht : t ≤ h) (h64 : h - t < 64) (h31 : h < 1000) :
    mX4_replace 108 (nI t) Y N (sHk σ I L hh y n z) = some (sHk σ I L (updA hh 3 (nI (h - t + 1))) (updA y (h - t) Y) (updA n (h - t) N) z) := by
  unfold mX4_replace mX4_replace_b62 sHk
  simp (disch := first | assumption | omega) only [↓gI_b, ↓gL_b, ↓gR_b, ↓sI_b, ↓sZ_b, ↓sL_b, ↓aLen_b, ↓ldI_b, ↓ldL_b, ↓ldZ_b, ↓ldR_b, ↓stI_b, ↓stL_b, ↓stZ_b, ↓at_b, ↓put_b, ↓longAt_b, ↓putLong_b, ↓has_b, ↓mhas_b, ↓needSlot_b, ↓reduceIte, hpS_hk, kI_50, kI_80, kL_51, kL_81, kS_ok, kI_0, kI_1, kL_0, kS_0, kS_1, ixN_n, ixN_0, ixN_1, k50_ok, k51_ok, rowUp_at, updA_at, atV_n, laV_n, atV_0, laV_0, putV_n, plV_n, hasI_n, Option.bind_some, b2_some, xt_some, eq_self, Nat.reduceAdd, Nat.reduceEqDiff, Nat.reduceMul, Nat.reduceLT, Nat.reduceSub, nI_1, nI_add, pk_mul, nI_sub, nI_s1, nI_m1, lt_t, lt_f, lt0_f, eq0_d, eq1_d, gt0_d, lt_d, eq_d, bI0_d, bI1_d, if_pos, if_neg, true_and, and_true, true_or, or_true, aKd_50, aKd_51, aKd_80, aKd_81, aKd_65, aKd_70, z01_b, z01_e, z01_0, z01_1, SH_100, SH_101, SH_102, SH_103, SH_104, SH_105, SH_106, SH_107, SH_108, SH_109, SH_110, SH_111, SH_282, SH_283, SH_284, SH_285, SH_286, SH_287, SH_414, SH_415, SH_416, SH_417, SH_418, SH_419, SH_420, SH_421, SH_422, SH_423, SH_424, SH_425, SH_426, SH_427, SH_428, SH_429, SH_430, SH_431, SH_432, SH_433, SH_434, SH_435, SH_436, SH_437, SH_438, SH_439, SH_440, SH_441, SH_442, SH_443, SH_444, SH_445, SH_446, SH_447, SH_448, SH_449, SH_450, SH_451, SH_452, SH_453, SH_454, SH_1, SH_2, SH_3, RF_100_0, RF_100_1, RF_100_2, RF_100_3, RF_100_4, RF_100_5, RF_100_6, RF_100_7, RF_100_8, RF_100_9, RF_100_10, RF_100_11, RF_100_12, RF_100_13, RF_100_14, RF_100_15, RF_282_0, RF_282_1, RF_282_2, RF_282_3, RF_282_4, RF_101_0, RF_103_0, RF_103_1, RF_103_2, RF_103_3, RF_108_0, RF_108_1, RF_108_2, RF_283_0, RF_285_0, RF_285_1, RF_414_0, RF_416_0, RF_418_0, RF_420_0, RF_420_1, RF_420_2, RF_420_3, RF_426_0, RF_426_1, RF_426_2, RF_426_3, RF_426_4, hh3]
  sorry
end SEER
