/-! WHAT IS TOLD (T, as the reference's row has it) AND WHAT IS NOW (N) -/
def bs (p : Nat → Bool) : Nat → Nat
  | 0 => 0
  | n + 1 => bs p n ||| (if p n = true then 2 ^ n else 0)
theorem bs_lt (p : Nat → Bool) (n : Nat) : bs p n < 2 ^ n := by
  induction n with
  | zero => exact Nat.one_pos
  | succ n ih =>
    have h1 : (2 : Nat) ^ n < 2 ^ (n + 1) := Nat.pow_lt_pow_right (by omega) (by omega)
    have h2 : (if p n = true then 2 ^ n else 0) < 2 ^ (n + 1) := by split <;> omega
    exact Nat.or_lt_two_pow (by omega) h2
theorem bs_bit (p : Nat → Bool) (n i : Nat) : (bs p n).testBit i = (decide (i < n) && p i) := by
  induction n with
  | zero => simp [bs]
  | succ n ih =>
    simp only [bs]
    rw [Nat.testBit_or, ih]
    by_cases e : i = n
    · subst e
      cases h : p i
      · simp
      · simp [Nat.testBit_two_pow]
    · have h1 : decide (i < n + 1) = decide (i < n) := decide_eq_decide.mpr (by omega)
      rw [h1]
      cases h : p n
      · simp
      · simp [Nat.testBit_two_pow, Ne.symm e]
theorem bs_congr {p q : Nat → Bool} {n : Nat} (h : ∀ i, i < n → p i = q i) : bs p n = bs q n := by
  induction n with
  | zero => rfl
  | succ n ih => simp only [bs]; rw [ih fun i hi => h i (by omega), h n (by omega)]
theorem bs_of {a n : Nat} (h : a < 2 ^ n) : bs (fun i => a.testBit i) n = a := by
  apply Nat.eq_of_testBit_eq; intro i
  rw [bs_bit]
  by_cases hi : i < n
  · simp [hi]
  · have : a.testBit i = false := Nat.testBit_lt_two_pow (Nat.lt_of_lt_of_le h (Nat.pow_le_pow_right (by omega) (by omega)))
    simp [hi, this]
/-- an EXPR in a world -/
def cT (T : Nat → Nat) : Nat → Nat := fun i => T (150 + i)
def ev (T : Nat → Nat) (e w : Nat) : Bool := (evP (qw w) (cT T) (T (84 + e)) (T (117 + e))).1
def may (T : Nat → Nat) (w : Nat) : Bool := allB (fun k => !ev T (T (78 + k)) w) (T 3)
def poss (T : Nat → Nat) (w : Nat) : Bool := decide (w < 2 ^ T 1) && may T w
def won (T : Nat → Nat) (k w : Nat) : Bool := allB (fun i => ev T (T (31 + 4 * k + i)) w) (T (26 + k)) && allB (fun p => !(decide (T (66 + p) = k) && ev T (T (72 + p)) w)) (T 4)
def kn (N : Nat → Nat) (f : Nat) : Bool := decide (N f = 1) || decide (N f = 4)
def knF (N : Nat → Nat) : Nat := bs (kn N) 8
def knS (N : Nat → Nat) : Nat := bs (fun f => kn N f && decide (N (8 + f) = 1)) 8
def agr (T : Nat → Nat) (F S w : Nat) : Bool := poss T w && decide (w &&& F = S)
def lft (T N : Nat → Nat) : Nat → Bool := agr T (knF N) (knS N)
/-- what is told is well formed -/
def WT (T : Nat → Nat) : Prop :=
  (T 0 < 1000 ∧ T 1 ≤ 8 ∧ T 2 ≤ 5 ∧ T 3 ≤ 6 ∧ T 4 ≤ 6 ∧ (1 ≤ T 5 ∧ T 5 ≤ 999) ∧ T 6 ≤ 32 ∧ T 7 ≤ 480) ∧
  (∀ f, f < T 1 → 1 ≤ T (8 + f) ∧ T (8 + f) ≤ 9) ∧
  (∀ k, k < T 2 → T (16 + k) ≤ 999 ∧ T (21 + k) ≤ 999 ∧ T (26 + k) ≤ 4 ∧ (∀ i, i < T (26 + k) → T (31 + 4 * k + i) < T 6) ∧ T (51 + k) < 2 ^ T 1 ∧ T (56 + k) &&& T (51 + k) = T (56 + k) ∧ T (61 + k) < 32) ∧
  (∀ p, p < T 4 → T (66 + p) < T 2 ∧ T (72 + p) < T 6) ∧ (∀ k, k < T 3 → T (78 + k) < T 6) ∧
  (∀ e, e < T 6 → wfE (cT T) (T (84 + e)) (T (117 + e)) ∧ T (117 + e) ≤ T 7) ∧ (∃ w, w < 256 ∧ poss T w = true)
/-- of a COUNT -/
def it (N : Nat → Nat) (k j : Nat) : Nat := N (19 + 8 * k + j)
def WN (T N : Nat → Nat) : Prop :=
  (∀ f, f < 8 → N f ≤ 4 ∧ N (8 + f) ≤ 1 ∧ (N (8 + f) = 1 → kn N f = true) ∧ (T 1 ≤ f → N f = 0)) ∧ N 16 ≤ 1 ∧ N 17 ≤ 9999 ∧ (T 2 ≤ N 18 ∧ N 18 ≤ 8) ∧
  (∀ k, k < N 18 → it N k 0 < T 2 ∧ it N k 1 ≤ N 17 ∧ it N k 2 ≤ 999 ∧ it N k 3 ≤ 999 ∧ it N k 4 < 2 ^ T 1 ∧ it N k 5 &&& it N k 4 = it N k 5 ∧ it N k 6 ≤ 1 ∧ it N k 7 ≤ k ∧ it N (it N k 7) 0 = it N k 0 ∧ (k < T 2 → it N k 7 = k ∧ it N k 0 = k) ∧ (T 2 ≤ k → it N k 7 < k) ∧ ∀ j, j < k → it N j 1 ≤ it N k 1) ∧
  (∃ w, w < 256 ∧ lft T N w = true)
theorem ev_lt {n : Nat} (h : n ≤ 8) : 2 ^ n ≤ 256 := Nat.pow_le_pow_right (n := 2) (by omega) h
theorem knF_lt (N : Nat → Nat) : knF N < 256 := bs_lt _ 8
theorem knS_lt (N : Nat → Nat) : knS N < 256 := bs_lt _ 8
/-! the reference's rows -/
def rT (I : Nat → Nat → Int32) (T : Nat → Nat) : Prop := ∀ i, i < 640 → I 434 i = nI (T i)
def rN (I : Nat → Nat → Int32) (N : Nat → Nat) : Prop := ∀ i, i < 83 → I 438 i = nI (N i)
section MTAB
variable {σ : Sg} {I : Nat → Nat → Int32} {L : Nat → Nat → Int64}
theorem its_b {ρ : Type} (x y : Int32) (f : Int32 → Option ρ) : (mX12_its 433 x y (hk σ I L)).bind f = if kI (50, 83) ((19 + 8 * x) + y) = true then f (I 438 (ixN ((19 + 8 * x) + y))) else none := by
  unfold mX12_its
  rw [if_pos (show (hpS (hk σ I L) 433).1 = 13 from rfl), show gR 12 4 433 (hk σ I L) = some 438 from rfl, obind, ldI_b]
  rw [show SH (gN σ) 438 = (50, 83) from rfl]
  split <;> rfl
theorem in_ok {x lo hi : Nat} (hx : x < 2147483648) (hlo : lo < 2147483648) (hhi : hi < 2147483648) : mX12_in (nI x) (nI lo) (nI hi) = some (bI (decide (lo ≤ x ∧ x ≤ hi))) := by
  unfold mX12_in
  rw [c_ltd hx hlo, c_ltd hhi hx]
  by_cases h1 : x < lo
  · rw [if_pos h1, decide_eq_false (by omega)]; rfl
  · by_cases h2 : hi < x
    · rw [if_neg h1, if_pos h2, decide_eq_false (by omega)]; rfl
    · rw [if_neg h1, if_neg h2, decide_eq_true (by omega)]; rfl
theorem isKnown_ok {N : Nat → Nat} (hN : rN I N) {f : Nat} (hf : f < 8) (h4 : N f < 2147483648) : mX12_isKnown 433 (nI f) (hk σ I L) = some (bI (kn N f)) := by
  have e := hN f (by omega)
  unfold mX12_isKnown kn
  simp (disch := first | assumption | omega) only [↓gI_b, ↓gL_b, ↓gR_b, ↓sI_b, ↓sZ_b, ↓sL_b, ↓aLen_b, ↓ldI_b, ↓ldL_b, ↓ldZ_b, ↓ldR_b, ↓stI_b, ↓stL_b, ↓stZ_b, ↓at_b, ↓put_b, ↓longAt_b, ↓putLong_b, ↓has_b, ↓mhas_b, ↓needSlot_b, ↓reduceIte, hpS_hk, kI_50, kI_80, kL_51, kL_81, kS_ok, kI_0, kI_1, kL_0, kS_0, kS_1, ixN_n, ixN_0, ixN_1, k50_ok, k51_ok, rowUp_at, updAt, rowUp_two, updA_two, Nat.add_zero, atV_n, laV_n, atV_0, laV_0, putV_n, plV_n, hasI_n, obind, b2s, xts, eq_self, Nat.reduceAdd, Nat.reduceEqDiff, Nat.reduceMul, Nat.reduceLT, Nat.reduceSub, nI_1, nI_add, pk_mul, nI_sub, nI_s1, nI_m1, lt_t, lt_f, lt0_f, eq0_d, eq1_d, gt0_d, lt_d, eq_d, bI0_d, bI1_d, if_pos, if_neg, true_and, and_true, true_or, or_true, aKd_50, aKd_51, aKd_80, aKd_81, aKd_65, aKd_70, z01_b, z01_e, z01_0, z01_1, SH_100, SH_101, SH_102, SH_103, SH_104, SH_105, SH_106, SH_107, SH_108, SH_109, SH_110, SH_111, SH_282, SH_283, SH_284, SH_285, SH_286, SH_287, SH_414, SH_415, SH_416, SH_417, SH_418, SH_419, SH_420, SH_421, SH_422, SH_423, SH_424, SH_425, SH_426, SH_427, SH_428, SH_429, SH_430, SH_431, SH_432, SH_433, SH_434, SH_435, SH_436, SH_437, SH_438, SH_439, SH_440, SH_441, SH_442, SH_443, SH_444, SH_445, SH_446, SH_447, SH_448, SH_449, SH_450, SH_451, SH_452, SH_453, SH_454, SH_1, SH_2, SH_3, RF_433_0, RF_433_1, RF_433_2, RF_433_3, RF_433_4, RF_433_5, RF_433_6, RF_433_7, RF_433_9, RF_433_23, RF_433_24, RF_433_25, RF_433_26, RF_433_27, RF_433_28, RF_433_29, RF_433_30, RF_433_33, RF_433_34, RF_433_35, RF_433_38, i0, L4, Nat.zero_add, e]
  by_cases h1 : N f = 1
  · simp [h1]; rfl
  · by_cases h2 : N f = 4
    · simp [h2]; rfl
    · simp [h1, h2]; rfl
theorem nx_or0 (a : Nat) : nI a ||| 0 = nI a := by rw [show (0 : Int32) = nI 0 from rfl, nx_or, Nat.or_zero]
theorem knownFacts_ok {N : Nat → Nat} (hN : rN I N) (hb : ∀ f, f < 8 → N f ≤ 4) : mX12_knownFacts 433 (hk σ I L) = some (nI (knF N)) := by
  unfold mX12_knownFacts mX12_knownFacts_l4
  rw [if_pos (show (hpS (hk σ I L) 433).1 = 13 from rfl)]
  refine lp_traj (f := fun s : Int32 × Int32 => mX12_knownFacts_l4f 433 (hk σ I L) s.1 s.2) 8 (fun i => (nI (bs (kn N) i), nI i)) _ (fun i hi => ?_) ?_
  · show mX12_knownFacts_l4f 433 (hk σ I L) (nI (bs (kn N) i)) (nI i) = _
    have := hb i hi
    unfold mX12_knownFacts_l4f mX12_knownFacts_b26
    rw [show (8 : Int32) = nI 8 from rfl, c_lt hi (by omega), isKnown_ok hN hi (by omega), obind, c_b, shl1 (by omega), nx_or, nx_or0, nI_1]
    simp only [bs]
    cases kn N i <;> simp
  · show mX12_knownFacts_l4f 433 (hk σ I L) (nI (bs (kn N) 8)) (nI 8) = _
    unfold mX12_knownFacts_l4f
    rw [if_neg (by decide)]; rfl
theorem knownSo_ok {N : Nat → Nat} (hN : rN I N) (hb : ∀ f, f < 8 → N f ≤ 4 ∧ N (8 + f) ≤ 1) : mX12_knownSo 433 (hk σ I L) = some (nI (knS N)) := by
  unfold mX12_knownSo mX12_knownSo_l4
  rw [if_pos (show (hpS (hk σ I L) 433).1 = 13 from rfl)]
  refine lp_traj (f := fun s : Int32 × Int32 => mX12_knownSo_l4f 433 (hk σ I L) s.1 s.2) 8 (fun i => (nI (bs (fun f => kn N f && decide (N (8 + f) = 1)) i), nI i)) _ (fun i hi => ?_) ?_
  · show mX12_knownSo_l4f 433 (hk σ I L) (nI (bs (fun f => kn N f && decide (N (8 + f) = 1)) i)) (nI i) = _
    have := hb i hi
    have e := hN (8 + i) (by omega)
    unfold mX12_knownSo_l4f mX12_knownSo_b38 mX12_knownSo_b39
    rw [show (8 : Int32) = nI 8 from rfl, c_lt hi (by omega), isKnown_ok hN hi (by omega), obind, c_b]
    simp only [bs]
    by_cases hk1 : kn N i = true
    · rw [if_pos hk1]
      simp (disch := first | assumption | omega) only [↓gI_b, ↓gL_b, ↓gR_b, ↓sI_b, ↓sZ_b, ↓sL_b, ↓aLen_b, ↓ldI_b, ↓ldL_b, ↓ldZ_b, ↓ldR_b, ↓stI_b, ↓stL_b, ↓stZ_b, ↓at_b, ↓put_b, ↓longAt_b, ↓putLong_b, ↓has_b, ↓mhas_b, ↓needSlot_b, ↓reduceIte, hpS_hk, kI_50, kI_80, kL_51, kL_81, kS_ok, kI_0, kI_1, kL_0, kS_0, kS_1, ixN_n, ixN_0, ixN_1, k50_ok, k51_ok, rowUp_at, updAt, rowUp_two, updA_two, Nat.add_zero, atV_n, laV_n, atV_0, laV_0, putV_n, plV_n, hasI_n, obind, b2s, xts, eq_self, Nat.reduceAdd, Nat.reduceEqDiff, Nat.reduceMul, Nat.reduceLT, Nat.reduceSub, nI_1, nI_add, pk_mul, nI_sub, nI_s1, nI_m1, lt_t, lt_f, lt0_f, eq0_d, eq1_d, gt0_d, lt_d, eq_d, bI0_d, bI1_d, if_pos, if_neg, true_and, and_true, true_or, or_true, aKd_50, aKd_51, aKd_80, aKd_81, aKd_65, aKd_70, z01_b, z01_e, z01_0, z01_1, SH_100, SH_101, SH_102, SH_103, SH_104, SH_105, SH_106, SH_107, SH_108, SH_109, SH_110, SH_111, SH_282, SH_283, SH_284, SH_285, SH_286, SH_287, SH_414, SH_415, SH_416, SH_417, SH_418, SH_419, SH_420, SH_421, SH_422, SH_423, SH_424, SH_425, SH_426, SH_427, SH_428, SH_429, SH_430, SH_431, SH_432, SH_433, SH_434, SH_435, SH_436, SH_437, SH_438, SH_439, SH_440, SH_441, SH_442, SH_443, SH_444, SH_445, SH_446, SH_447, SH_448, SH_449, SH_450, SH_451, SH_452, SH_453, SH_454, SH_1, SH_2, SH_3, RF_433_0, RF_433_1, RF_433_2, RF_433_3, RF_433_4, RF_433_5, RF_433_6, RF_433_7, RF_433_9, RF_433_23, RF_433_24, RF_433_25, RF_433_26, RF_433_27, RF_433_28, RF_433_29, RF_433_30, RF_433_33, RF_433_34, RF_433_35, RF_433_38, e, nx_or0, shl1, nx_or]
      by_cases h1 : N (8 + i) = 1 <;> simp [h1, hk1]
    · rw [if_neg hk1, nx_or0, nI_1]; simp [hk1]
  · show mX12_knownSo_l4f 433 (hk σ I L) (nI (bs (fun f => kn N f && decide (N (8 + f) = 1)) 8)) (nI 8) = _
    unfold mX12_knownSo_l4f
    rw [if_neg (by decide)]; rfl
theorem laysKnown_ok {T N : Nat → Nat} (hN : rN I N) (hb : ∀ f, f < 8 → N f ≤ 4 ∧ N (8 + f) ≤ 1) (hc : Rm (I 444) 0 (poss T)) :
    ∃ r, mX12_laysKnown 433 (hk σ I L) = some (hk σ (rowUp I 447 r) L) ∧ Rm r 0 (lft T N) := by
  obtain ⟨r, e, hr⟩ := laysAgreed_ok (σ := σ) (I := I) (L := L) (a := 447) rfl (by decide) (knF_lt N) (knS_lt N) hc
  refine ⟨r, ?_, hr⟩
  unfold mX12_laysKnown
  rw [if_pos (show (hpS (hk σ I L) 433).1 = 13 from rfl), show gR 12 27 433 (hk σ I L) = some 447 from rfl, obind, knownFacts_ok hN (fun f hf => (hb f hf).1), obind, knownSo_ok hN hb, obind, e]; rfl
/-- whether no NEVER holds -/
theorem mayBe_ok {R : Nat → Nat} (row : Nat) (hrow : SH (gN σ) row = (50, 640)) (hr443 : row ≠ 443) (hR : ∀ i, i < 640 → I row i = nI (R i)) {w : Nat} (hw : w < 256) (h3 : R 3 ≤ 6)
    (hwf : ∀ k, k < R 3 → R (78 + k) < 33 ∧ wfE (cT R) (R (84 + R (78 + k))) (R (117 + R (78 + k))) ∧ R (117 + R (78 + k)) ≤ 490) :
    ∃ P, mX12_mayBe 433 row (nI w) (hk σ I L) = some (bI (may R w), hk σ (rowUp I 443 P) L) := by
  have h0 : hk σ I L = hk σ (rowUp I 443 (I 443)) L := by rw [rowUp_id]
  rw [h0]
  unfold mX12_mayBe
  rw [if_pos (show (hpS (hk σ (rowUp I 443 (I 443)) L) 433).1 = 13 from rfl)]
  unfold mX12_mayBe_l2
  have rd : ∀ P i, i < 640 → rowUp I 443 P row i = nI (R i) := fun P i hi => by rw [rowUp_at, if_neg hr443, hR i hi]
  have hs : ∀ P, hpS (hk σ (rowUp I 443 P) L) row = (50, 640) := fun _ => hrow
  have l3 : ∀ P, ldI row 3 (hk σ (rowUp I 443 P) L) = some (nI (R 3)) := fun P => by
    rw [L3, ldI_ok (hs P) (by omega) (by omega), hpI_hk, rd P 3 (by omega)]
  have key := lp_invX (f := fun s : Int32 × Hp => mX12_mayBe_l2f 433 row (nI w) s.1 s.2) (R 3) (fun i st => ∃ P, st = (nI i, hk σ (rowUp I 443 P) L) ∧ ∀ k, k < i → ev R (R (78 + k)) w = false) (fun r => ∃ P, r = (bI (may R w), hk σ (rowUp I 443 P) L))
    (fun i st hi hQ => by
      obtain ⟨P, rfl, hP⟩ := hQ
      obtain ⟨w1, w2, w3⟩ := hwf i hi
      obtain ⟨P', e⟩ := mholds_ok (σ := σ) (I := rowUp I 443 P) (L := L) row hrow hr443 (cT R) (R (78 + i)) w (R (84 + R (78 + i))) (R (117 + R (78 + i))) (rd P _ (by omega)) (rd P _ (by omega)) w1 hw w3 (fun j h1 h2 => rd P _ (by omega)) w2
      rw [rowUp_two] at e
      have l78 : ldI row ((78 : Int32) + nI i) (hk σ (rowUp I 443 P) L) = some (nI (R (78 + i))) := by
        rw [L78, nI_add, ldI_ok (hs P) (by omega) (by omega), hpI_hk, rd P _ (by omega)]
      show (∃ t, mX12_mayBe_l2f 433 row (nI w) (nI i) _ = some (.inl t) ∧ _) ∨ ∃ r, mX12_mayBe_l2f 433 row (nI w) (nI i) _ = some (.inr r) ∧ _
      unfold mX12_mayBe_l2f
      rw [l3, obind, c_lt hi (by omega), l78, obind, e, b2s]
      cases he : (evP (qw w) (cT R) (R (84 + R (78 + i))) (R (117 + R (78 + i)))).1
      · refine Or.inl ⟨_, by rw [if_neg (show ¬ bI false = 1 by decide), nI_1], P', rfl, fun k hk' => ?_⟩
        by_cases ek : k = i
        · subst ek; exact he
        · exact hP k (by omega)
      · refine Or.inr ⟨_, by rw [if_pos (show bI true = 1 from rfl), xts], P', ?_⟩
        have : may R w = false := by
          unfold may
          cases hb : allB (fun k => !ev R (R (78 + k)) w) (R 3)
          · rfl
          · have := allB_iff.mp hb i hi
            unfold ev at this; rw [he] at this; cases this
        rw [this]; rfl)
    (fun st hQ => by
      obtain ⟨P, rfl, hP⟩ := hQ
      refine ⟨_, ?_, P, rfl⟩
      show mX12_mayBe_l2f 433 row (nI w) (nI (R 3)) _ = _
      unfold mX12_mayBe_l2f
      rw [l3, obind, c_nlt (Nat.le_refl _) (by omega), xts]
      have : may R w = true := allB_iff.mpr fun k hk' => by rw [hP k hk']; rfl
      rw [this]; rfl)
    (i := 0) (s := (nI 0, hk σ (rowUp I 443 (I 443)) L)) (Nat.zero_le _) ⟨_, rfl, fun k hk' => absurd hk' (Nat.not_lt_zero _)⟩
  obtain ⟨r, e, P, rfl⟩ := key
  exact ⟨P, e⟩
end MTAB
