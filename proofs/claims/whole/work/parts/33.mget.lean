/-! pleas of a told COUNT, BACKs, FAILINGs, in words of T and N -/
def plq (T : Nat → Nat) (b p : Nat) : Bool := decide (T (66 + p) = b)
/-- the i-th of those with a property -/
def ith (q : Nat → Bool) (n i : Nat) : Option Nat := fstB (fun p => q p && decide (cntB q p = i)) n
theorem cntB_mono (q : Nat → Bool) {a b : Nat} (h : a ≤ b) : cntB q a ≤ cntB q b := by
  obtain ⟨d, rfl⟩ : ∃ d, b = a + d := ⟨b - a, by omega⟩
  rw [cntB_add]; omega
theorem ith_none {q : Nat → Bool} {n i : Nat} : ith q n i = none ↔ cntB q n ≤ i := by
  unfold ith
  rw [fstB_none]
  constructor
  · intro h
    induction n with
    | zero => exact Nat.zero_le _
    | succ n ih =>
      have h1 := ih fun j hj => h j (by omega)
      have h2 := h n (by omega)
      simp only [cntB]
      cases hq : q n
      · simp; exact h1
      · rw [hq] at h2
        simp at h2 ⊢
        omega
  · intro h j hj
    cases hq : q j
    · rfl
    · have h1 : cntB q (j + 1) ≤ cntB q n := cntB_mono q (by omega)
      simp only [cntB] at h1
      rw [hq] at h1
      simp at h1 ⊢
      omega
/-- BACK out of others' BACKs, as far as COUNTS below m -/
def bkF (B N : Nat → Nat) (k S : Nat) : Nat → Nat
  | 0 => it N k 1
  | o + 1 => if S ≠ 0 ∧ it N o 1 < it N k 1 ∧ pc S ≤ 2 * pc (it N o 4 &&& S) then min (bkF B N k S o) (B o) else bkF B N k S o
def BK (N : Nat → Nat) : Nat → Nat → Nat
  | 0 => fun _ => 0
  | n + 1 => updA (BK N n) n (bkF (BK N n) N n (it N n 4) n)
def bk (N : Nat → Nat) (k : Nat) : Nat := BK N (k + 1) k
theorem BK_st (N : Nat → Nat) {m j : Nat} (h : j < m) : BK N m j = bk N j := by
  induction m with
  | zero => omega
  | succ m ih =>
    by_cases e : j = m
    · subst e; rfl
    · simp only [BK]; rw [updA_at, if_neg e]; exact ih (by omega)
theorem bkF_congr {B B' N : Nat → Nat} {k S m : Nat} (h : ∀ o, o < m → it N o 1 < it N k 1 → B o = B' o) : bkF B N k S m = bkF B' N k S m := by
  induction m with
  | zero => rfl
  | succ m ih =>
    simp only [bkF]
    rw [ih fun o ho => h o (by omega)]
    by_cases h1 : S ≠ 0 ∧ it N m 1 < it N k 1 ∧ pc S ≤ 2 * pc (it N m 4 &&& S)
    · rw [if_pos h1, if_pos h1, h m (by omega) h1.2.1]
    · rw [if_neg h1, if_neg h1]
theorem bkF_le (B N : Nat → Nat) (k S m : Nat) : bkF B N k S m ≤ it N k 1 := by
  induction m with
  | zero => exact Nat.le_refl _
  | succ m ih => simp only [bkF]; split <;> omega
theorem bkF_0 (B N : Nat → Nat) (k m : Nat) : bkF B N k 0 m = it N k 1 := by
  induction m with
  | zero => rfl
  | succ m ih => simp only [bkF]; rw [if_neg (by simp)]; exact ih
/-- later ones add nothing -/
theorem bkF_cut {B N : Nat → Nat} {k S m : Nat} (hk' : k ≤ m) (h : ∀ o, k ≤ o → o < m → it N k 1 ≤ it N o 1) : bkF B N k S m = bkF B N k S k := by
  induction m with
  | zero => have : k = 0 := by omega
            subst this; rfl
  | succ m ih =>
    by_cases e : k = m + 1
    · rw [e]
    · have h1 := h m (by omega) (by omega)
      simp only [bkF]
      rw [if_neg (by omega)]
      exact ih (by omega) fun o h1 h2 => h o h1 (by omega)
theorem bk_eq (N : Nat → Nat) (k : Nat) : bk N k = bkF (bk N) N k (it N k 4) k := by
  unfold bk
  simp only [BK]
  rw [updA_at, if_pos rfl]
  exact bkF_congr fun o ho _ => BK_st N ho
theorem bk_le (N : Nat → Nat) (k : Nat) : bk N k ≤ it N k 1 := by rw [bk_eq]; exact bkF_le _ _ _ _ _
def sure (T : Nat → Nat) (f : Nat → Bool) (e : Nat) : Bool := allB (fun w => !f w || ev T e w) 256
def meets (T : Nat → Nat) (f : Nat → Bool) (e : Nat) : Bool := anyB (fun w => f w && ev T e w) 256
/-- FAILING of a COUNT, were it to say these -/
def fls (T N : Nat → Nat) (k S So : Nat) : Nat :=
  if it N k 6 = 1 then 1 else if anyB (agr T S So) 256 = false then 2
  else if allB (fun i => sure T (agr T S So) (T (31 + 4 * it N k 0 + i))) (T (26 + it N k 0)) = false then 3
  else if allB (fun i => meets T (lft T N) (T (31 + 4 * it N k 0 + i))) (T (26 + it N k 0)) = false then 4
  else if anyB (fun p => plq T (it N k 0) p && (sure T (agr T S So) (T (72 + p)) || sure T (lft T N) (T (72 + p)))) (T 4) = true then 5
  else if T 5 < it N k 3 + bkF (bk N) N k S k then 6 else 0
def stnd (T N : Nat → Nat) : Nat := bs (fun k => decide (fls T N k (it N k 4) (it N k 5) = 0)) (N 18)
section MGET
variable {σ : Sg} {I : Nat → Nat → Int32} {L : Nat → Nat → Int64}
theorem misFact_ok {T : Nat → Nat} (hT : rT I T) (h8 : T 1 ≤ 8) (x : Int32) : mX12_isFact 433 x (hk σ I L) = some (bI (decide (0 ≤ x.toInt ∧ x.toInt < T 1))) := by
  have e1 := hT 1 (by omega)
  have c1 : (nI (T 1) - 1).toInt = (T 1 : Int) - 1 := by
    have k : ∀ n, n < 9 → (nI n - 1).toInt = (n : Int) - 1 := by decide +kernel
    exact k _ (by omega)
  unfold mX12_isFact mX12_in
  simp (disch := first | assumption | omega) only [↓gI_b, ↓gL_b, ↓gR_b, ↓sI_b, ↓sZ_b, ↓sL_b, ↓aLen_b, ↓ldI_b, ↓ldL_b, ↓ldZ_b, ↓ldR_b, ↓stI_b, ↓stL_b, ↓stZ_b, ↓at_b, ↓put_b, ↓longAt_b, ↓putLong_b, ↓has_b, ↓mhas_b, ↓needSlot_b, ↓reduceIte, hpS_hk, kI_50, kI_80, kL_51, kL_81, kS_ok, kI_0, kI_1, kL_0, kS_0, kS_1, ixN_n, ixN_0, ixN_1, k50_ok, k51_ok, rowUp_at, updAt, rowUp_two, updA_two, Nat.add_zero, atV_n, laV_n, atV_0, laV_0, putV_n, plV_n, hasI_n, obind, b2s, xts, eq_self, Nat.reduceAdd, Nat.reduceEqDiff, Nat.reduceMul, Nat.reduceLT, Nat.reduceSub, nI_1, nI_add, pk_mul, nI_sub, nI_s1, nI_m1, lt_t, lt_f, lt0_f, eq0_d, eq1_d, gt0_d, lt_d, eq_d, bI0_d, bI1_d, if_pos, if_neg, true_and, and_true, true_or, or_true, aKd_50, aKd_51, aKd_80, aKd_81, aKd_65, aKd_70, z01_b, z01_e, z01_0, z01_1, SH_100, SH_101, SH_102, SH_103, SH_104, SH_105, SH_106, SH_107, SH_108, SH_109, SH_110, SH_111, SH_282, SH_283, SH_284, SH_285, SH_286, SH_287, SH_414, SH_415, SH_416, SH_417, SH_418, SH_419, SH_420, SH_421, SH_422, SH_423, SH_424, SH_425, SH_426, SH_427, SH_428, SH_429, SH_430, SH_431, SH_432, SH_433, SH_434, SH_435, SH_436, SH_437, SH_438, SH_439, SH_440, SH_441, SH_442, SH_443, SH_444, SH_445, SH_446, SH_447, SH_448, SH_449, SH_450, SH_451, SH_452, SH_453, SH_454, SH_1, SH_2, SH_3, RF_433_0, RF_433_1, RF_433_2, RF_433_3, RF_433_4, RF_433_5, RF_433_6, RF_433_7, RF_433_9, RF_433_23, RF_433_24, RF_433_25, RF_433_26, RF_433_27, RF_433_28, RF_433_29, RF_433_30, RF_433_33, RF_433_34, RF_433_35, RF_433_38, e1]
  have h0 : (0 : Int32).toInt = 0 := rfl
  by_cases a1 : x < 0
  · have := Int32.lt_iff_toInt_lt.mp a1
    rw [if_pos a1, obind, decide_eq_false (by omega)]; rfl
  · have n1 : ¬ x.toInt < 0 := fun h => a1 (Int32.lt_iff_toInt_lt.mpr (by omega))
    by_cases a2 : nI (T 1) - 1 < x
    · have := Int32.lt_iff_toInt_lt.mp a2
      rw [if_neg a1, if_pos a2, obind, decide_eq_false (by omega)]; rfl
    · have n2 : ¬ (nI (T 1) - 1).toInt < x.toInt := fun h => a2 (Int32.lt_iff_toInt_lt.mpr h)
      rw [if_neg a1, if_neg a2, obind, decide_eq_true (by omega)]; rfl
theorem misCount_ok {N : Nat → Nat} (hN : rN I N) (h8 : N 18 ≤ 8) (x : Int32) : mX12_isCount 433 x (hk σ I L) = some (bI (decide (0 ≤ x.toInt ∧ x.toInt < N 18))) := by
  have e1 := hN 18 (by omega)
  have c1 : (nI (N 18) - 1).toInt = (N 18 : Int) - 1 := by
    have k : ∀ n, n < 9 → (nI n - 1).toInt = (n : Int) - 1 := by decide +kernel
    exact k _ (by omega)
  unfold mX12_isCount mX12_in
  simp (disch := first | assumption | omega) only [↓gI_b, ↓gL_b, ↓gR_b, ↓sI_b, ↓sZ_b, ↓sL_b, ↓aLen_b, ↓ldI_b, ↓ldL_b, ↓ldZ_b, ↓ldR_b, ↓stI_b, ↓stL_b, ↓stZ_b, ↓at_b, ↓put_b, ↓longAt_b, ↓putLong_b, ↓has_b, ↓mhas_b, ↓needSlot_b, ↓reduceIte, hpS_hk, kI_50, kI_80, kL_51, kL_81, kS_ok, kI_0, kI_1, kL_0, kS_0, kS_1, ixN_n, ixN_0, ixN_1, k50_ok, k51_ok, rowUp_at, updAt, rowUp_two, updA_two, Nat.add_zero, atV_n, laV_n, atV_0, laV_0, putV_n, plV_n, hasI_n, obind, b2s, xts, eq_self, Nat.reduceAdd, Nat.reduceEqDiff, Nat.reduceMul, Nat.reduceLT, Nat.reduceSub, nI_1, nI_add, pk_mul, nI_sub, nI_s1, nI_m1, lt_t, lt_f, lt0_f, eq0_d, eq1_d, gt0_d, lt_d, eq_d, bI0_d, bI1_d, if_pos, if_neg, true_and, and_true, true_or, or_true, aKd_50, aKd_51, aKd_80, aKd_81, aKd_65, aKd_70, z01_b, z01_e, z01_0, z01_1, SH_100, SH_101, SH_102, SH_103, SH_104, SH_105, SH_106, SH_107, SH_108, SH_109, SH_110, SH_111, SH_282, SH_283, SH_284, SH_285, SH_286, SH_287, SH_414, SH_415, SH_416, SH_417, SH_418, SH_419, SH_420, SH_421, SH_422, SH_423, SH_424, SH_425, SH_426, SH_427, SH_428, SH_429, SH_430, SH_431, SH_432, SH_433, SH_434, SH_435, SH_436, SH_437, SH_438, SH_439, SH_440, SH_441, SH_442, SH_443, SH_444, SH_445, SH_446, SH_447, SH_448, SH_449, SH_450, SH_451, SH_452, SH_453, SH_454, SH_1, SH_2, SH_3, RF_433_0, RF_433_1, RF_433_2, RF_433_3, RF_433_4, RF_433_5, RF_433_6, RF_433_7, RF_433_9, RF_433_23, RF_433_24, RF_433_25, RF_433_26, RF_433_27, RF_433_28, RF_433_29, RF_433_30, RF_433_33, RF_433_34, RF_433_35, RF_433_38, L18, e1]
  have h0 : (0 : Int32).toInt = 0 := rfl
  by_cases a1 : x < 0
  · have := Int32.lt_iff_toInt_lt.mp a1
    rw [if_pos a1, obind, decide_eq_false (by omega)]; rfl
  · have n1 : ¬ x.toInt < 0 := fun h => a1 (Int32.lt_iff_toInt_lt.mpr (by omega))
    by_cases a2 : nI (N 18) - 1 < x
    · have := Int32.lt_iff_toInt_lt.mp a2
      rw [if_neg a1, if_pos a2, obind, decide_eq_false (by omega)]; rfl
    · have n2 : ¬ (nI (N 18) - 1).toInt < x.toInt := fun h => a2 (Int32.lt_iff_toInt_lt.mpr h)
      rw [if_neg a1, if_neg a2, obind, decide_eq_true (by omega)]; rfl
theorem misLeft_ok {f : Nat → Bool} (hf : Rm (I 447) 0 f) {w : Nat} (hw : w < 256) : mX12_isLeft 433 (nI w) (hk σ I L) = some (bI (f w)) := by
  unfold mX12_isLeft
  rw [if_pos (show (hpS (hk σ I L) 433).1 = 13 from rfl), show gR 12 27 433 (hk σ I L) = some 447 from rfl, obind, show (0 : Int32) = nI 0 from rfl, isIn_ok (a := 447) (n := 8) rfl hw (by omega) (by omega), obind, z01_e, hf w hw]
theorem its_ok {k j : Nat} (hk' : k < 8) (hj : j < 8) : mX12_its 433 (nI k) (nI j) (hk σ I L) = some (I 438 (19 + 8 * k + j)) := by
  unfold mX12_its
  rw [if_pos (show (hpS (hk σ I L) 433).1 = 13 from rfl), show gR 12 4 433 (hk σ I L) = some 438 from rfl, obind, L19, L8, pk_mul, nI_add, nI_add, ldI_ok (n := 83) rfl (by omega) (by omega), obind, hpI_hk]
theorem its_n {N : Nat → Nat} (hN : rN I N) {k j : Nat} (hk' : k < 8) (hj : j < 8) : mX12_its 433 (nI k) (nI j) (hk σ I L) = some (nI (it N k j)) := by
  rw [its_ok hk' hj, hN _ (by omega)]; rfl
theorem its_0 {N : Nat → Nat} (hN : rN I N) {k : Nat} (hk' : k < 8) : mX12_its 433 (nI k) 0 (hk σ I L) = some (nI (it N k 0)) := its_n (j := 0) hN hk' (by omega)
theorem its_1 {N : Nat → Nat} (hN : rN I N) {k : Nat} (hk' : k < 8) : mX12_its 433 (nI k) 1 (hk σ I L) = some (nI (it N k 1)) := its_n (j := 1) hN hk' (by omega)
theorem its_2 {N : Nat → Nat} (hN : rN I N) {k : Nat} (hk' : k < 8) : mX12_its 433 (nI k) 2 (hk σ I L) = some (nI (it N k 2)) := its_n (j := 2) hN hk' (by omega)
theorem its_3 {N : Nat → Nat} (hN : rN I N) {k : Nat} (hk' : k < 8) : mX12_its 433 (nI k) 3 (hk σ I L) = some (nI (it N k 3)) := its_n (j := 3) hN hk' (by omega)
theorem its_4 {N : Nat → Nat} (hN : rN I N) {k : Nat} (hk' : k < 8) : mX12_its 433 (nI k) 4 (hk σ I L) = some (nI (it N k 4)) := its_n (j := 4) hN hk' (by omega)
theorem its_5 {N : Nat → Nat} (hN : rN I N) {k : Nat} (hk' : k < 8) : mX12_its 433 (nI k) 5 (hk σ I L) = some (nI (it N k 5)) := its_n (j := 5) hN hk' (by omega)
theorem its_6 {N : Nat → Nat} (hN : rN I N) {k : Nat} (hk' : k < 8) : mX12_its 433 (nI k) 6 (hk σ I L) = some (nI (it N k 6)) := its_n (j := 6) hN hk' (by omega)
theorem its_7 {N : Nat → Nat} (hN : rN I N) {k : Nat} (hk' : k < 8) : mX12_its 433 (nI k) 7 (hk σ I L) = some (nI (it N k 7)) := its_n (j := 7) hN hk' (by omega)
theorem ldT {T : Nat → Nat} (hT : rT I T) {i : Nat} (hi : i < 640) : ldI 434 (nI i) (hk σ I L) = some (nI (T i)) := by rw [ldI_ok (n := 640) rfl hi (by omega), hpI_hk, hT i hi]
theorem ldN {N : Nat → Nat} (hN : rN I N) {i : Nat} (hi : i < 83) : ldI 438 (nI i) (hk σ I L) = some (nI (N i)) := by rw [ldI_ok (n := 83) rfl hi (by omega), hpI_hk, hN i hi]
theorem g434 {ρ : Type} (f : Nat → Option ρ) : (gR 12 0 433 (hk σ I L)).bind f = f 434 := rfl
theorem g438 {ρ : Type} (f : Nat → Option ρ) : (gR 12 4 433 (hk σ I L)).bind f = f 438 := rfl
theorem gM (k : Nat) {ρ : Type} (f : Nat → Option ρ) : (gR 12 k 433 (hk σ I L)).bind f = f (RF σ 433 k) := rfl
theorem s433 : (hpS (hk σ I L) 433).1 = 13 := rfl
theorem mneeds_ok {T N : Nat → Nat} (hT : rT I T) (hN : rN I N) {k : Nat} (hk' : k < 8) (hb : it N k 0 < 5) : mX12_needs 433 (nI k) (hk σ I L) = some (nI (T (26 + it N k 0))) := by
  unfold mX12_needs
  rw [if_pos s433, g434, its_0 hN hk', obind, L26, nI_add, ldT hT (by omega), obind]
theorem mneed_ok {T N : Nat → Nat} (hT : rT I T) (hN : rN I N) {k i : Nat} (hk' : k < 8) (hb : it N k 0 < 5) (hi : i < 4) : mX12_need 433 (nI k) (nI i) (hk σ I L) = some (nI (T (31 + 4 * it N k 0 + i))) := by
  unfold mX12_need
  rw [if_pos s433, g434, its_0 hN hk', obind, L31, L4, pk_mul, nI_add, nI_add, ldT hT (by omega), obind]
theorem misWon_ok {N : Nat → Nat} (hN : rN I N) {k w : Nat} {f : Nat → Bool} (hk' : k < 8) (hb : it N k 0 < 5) (hf : Rm (I 446) (it N k 0) f) (hw : w < 256) : mX12_isWon 433 (nI k) (nI w) (hk σ I L) = some (bI (f w)) := by
  unfold mX12_isWon
  rw [if_pos s433, show gR 12 26 433 (hk σ I L) = some 446 from rfl, obind, its_0 hN hk', obind, isIn_ok (a := 446) (n := 40) rfl hw (by omega) (by omega), obind, z01_e, hf w hw]
theorem mbarOf_ok {T N : Nat → Nat} (hT : rT I T) (hN : rN I N) (h4 : T 4 ≤ 6) (hp : ∀ p, p < T 4 → T (66 + p) < 2147483648) {k i : Nat} (hk' : k < 8) (hb : it N k 0 < 5) (hi : i < 1000) :
    mX12_barOf 433 (nI k) (nI i) (hk σ I L) = some (match ith (plq T (it N k 0)) (T 4) i with | some p => nI (T (72 + p)) | none => -1) := by
  unfold mX12_barOf mX12_barOf_l5
  rw [if_pos s433]
  refine lp_up (f := fun s : Int32 × Int32 => mX12_barOf_l5f 433 (nI k) (hk σ I L) s.1 s.2) (T 4) (fun p s => s = (nI (i - cntB (plq T (it N k 0)) p), nI p) ∧ cntB (plq T (it N k 0)) p ≤ i ∧ ∀ j, j < p → (plq T (it N k 0) j && decide (cntB (plq T (it N k 0)) j = i)) = false)
    (fun o => o = some (match ith (plq T (it N k 0)) (T 4) i with | some p => nI (T (72 + p)) | none => -1)) ?_ ?_ (i := 0) (s := (nI i, nI 0)) (Nat.zero_le _) ⟨rfl, Nat.zero_le _, fun j hj => absurd hj (Nat.not_lt_zero _)⟩
  · rintro p s hp' ⟨rfl, hc, hj⟩
    have h1 := hp p hp'
    show (∃ t, mX12_barOf_l5f 433 (nI k) (hk σ I L) (nI (i - cntB (plq T (it N k 0)) p)) (nI p) = some (.inl t) ∧ _) ∨ ∃ r, mX12_barOf_l5f 433 (nI k) (hk σ I L) (nI (i - cntB (plq T (it N k 0)) p)) (nI p) = some (.inr r) ∧ _
    unfold mX12_barOf_l5f mX12_barOf_b56
    rw [g434, L4, ldT hT (by omega), obind, c_lt hp' (by omega), g434, L66, nI_add, ldT hT (by omega), obind, its_0 hN hk', obind, c_eqd h1 (by omega), c_0 (by omega)]
    by_cases hq : T (66 + p) = it N k 0
    · have hq' : plq T (it N k 0) p = true := decide_eq_true hq
      rw [if_pos hq]
      by_cases h0 : i - cntB (plq T (it N k 0)) p = 0
      · have hci : cntB (plq T (it N k 0)) p = i := by omega
        refine Or.inr ⟨nI (T (72 + p)), ?_, ?_⟩
        · rw [if_pos h0, g434, L72, nI_add, ldT hT (by omega), obind, xts]
        · have : ith (plq T (it N k 0)) (T 4) i = some p := fstB_some.mpr ⟨hp', by rw [hq', decide_eq_true hci]; rfl, hj⟩
          rw [this]
      · refine Or.inl ⟨(nI (i - cntB (plq T (it N k 0)) (p + 1)), nI (p + 1)), ?_, rfl, ?_, fun j hj2 => ?_⟩
        · rw [if_neg h0, nI_m1 (by omega), nI_1]
          simp only [cntB]; rw [hq']; simp [Nat.sub_sub]
        · simp only [cntB]; rw [hq']; simp; omega
        · by_cases ej : j = p
          · subst ej; rw [decide_eq_false (by omega)]; simp
          · exact hj j (by omega)
    · have hq' : plq T (it N k 0) p = false := decide_eq_false hq
      refine Or.inl ⟨(nI (i - cntB (plq T (it N k 0)) (p + 1)), nI (p + 1)), ?_, rfl, ?_, fun j hj2 => ?_⟩
      · rw [if_neg hq, nI_1]
        simp only [cntB]; rw [hq']; simp
      · simp only [cntB]; rw [hq']; simpa using hc
      · by_cases ej : j = p
        · subst ej; rw [hq']; rfl
        · exact hj j (by omega)
  · rintro s ⟨rfl, hc, hj⟩
    refine ⟨-1, ?_, ?_⟩
    · show mX12_barOf_l5f 433 (nI k) (hk σ I L) (nI (i - cntB (plq T (it N k 0)) (T 4))) (nI (T 4)) = _
      unfold mX12_barOf_l5f
      rw [g434, L4, ldT hT (by omega), obind, c_nlt (Nat.le_refl _) (by omega), xts]
    · have : ith (plq T (it N k 0)) (T 4) i = none := fstB_none.mpr hj
      rw [this]
theorem mbars_ok {T N : Nat → Nat} (hT : rT I T) (hN : rN I N) (h4 : T 4 ≤ 6) (hp : ∀ p, p < T 4 → T (66 + p) < 2147483648 ∧ T (72 + p) < 2147483648) {k : Nat} (hk' : k < 8) (hb : it N k 0 < 5) :
    mX12_bars 433 (nI k) (hk σ I L) = some (nI (cntB (plq T (it N k 0)) (T 4))) := by
  have hle := cntB_le (plq T (it N k 0)) (T 4)
  unfold mX12_bars mX12_bars_l2
  rw [if_pos s433]
  refine lp_traj (f := fun s : Int32 => mX12_bars_l2f 433 (nI k) (hk σ I L) s) (cntB (plq T (it N k 0)) (T 4)) (fun i => nI i) _ (fun i hi => ?_) ?_
  · show mX12_bars_l2f 433 (nI k) (hk σ I L) (nI i) = _
    unfold mX12_bars_l2f
    rw [mbarOf_ok hT hN h4 (fun p h => (hp p h).1) hk' hb (by omega), obind]
    cases hi' : ith (plq T (it N k 0)) (T 4) i with
    | none => have := ith_none.mp hi'; omega
    | some p =>
      have hp2 := (fstB_some.mp hi').1
      simp only
      rw [if_neg (fun e => by have := eqm1_d (hp p hp2).2; rw [e] at this; simp at this), nI_1]
  · show mX12_bars_l2f 433 (nI k) (hk σ I L) (nI (cntB (plq T (it N k 0)) (T 4))) = _
    unfold mX12_bars_l2f
    rw [mbarOf_ok hT hN h4 (fun p h => (hp p h).1) hk' hb (by omega), obind, ith_none.mpr (Nat.le_refl _)]
    simp only
    rw [if_pos trivial, xts]
end MGET
