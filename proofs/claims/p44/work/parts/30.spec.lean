/-! WHAT IS TOLD (T, as the reference's row has it) AND WHAT IS NOW (N) -/
def bs (p : Nat → Bool) : Nat → Nat
  | 0 => 0
  | n + 1 => bs p n ||| (if p n = true then 2 ^ n else 0)
theorem bs_lt (p : Nat → Bool) (n : Nat) : bs p n < 2 ^ n := by
  induction n with
  | zero => exact Nat.one_pos
  | succ n ih =>
    have h1 : (2 : Nat) ^ n < 2 ^ (n + 1) := Nat.pow_lt_pow_right (by omega) (by omega)
    have h2 : (if p n = true then 2 ^ n else 0) < 2 ^ (n + 1) := by split <;> omega
    exact Nat.or_lt_two_pow (by omega) h2
theorem bs_bit (p : Nat → Bool) (n i : Nat) : (bs p n).testBit i = (decide (i < n) && p i) := by
  induction n with
  | zero => simp [bs]
  | succ n ih =>
    simp only [bs]
    rw [Nat.testBit_or, ih]
    by_cases e : i = n
    · subst e
      cases h : p i
      · simp
      · simp [Nat.testBit_two_pow]
    · have h1 : decide (i < n + 1) = decide (i < n) := decide_eq_decide.mpr (by omega)
      rw [h1]
      cases h : p n
      · simp
      · simp [Nat.testBit_two_pow, Ne.symm e]
theorem bs_congr {p q : Nat → Bool} {n : Nat} (h : ∀ i, i < n → p i = q i) : bs p n = bs q n := by
  induction n with
  | zero => rfl
  | succ n ih => simp only [bs]; rw [ih fun i hi => h i (by omega), h n (by omega)]
theorem bs_of {a n : Nat} (h : a < 2 ^ n) : bs (fun i => a.testBit i) n = a := by
  apply Nat.eq_of_testBit_eq; intro i
  rw [bs_bit]
  by_cases hi : i < n
  · simp [hi]
  · have : a.testBit i = false := Nat.testBit_lt_two_pow (Nat.lt_of_lt_of_le h (Nat.pow_le_pow_right (by omega) (by omega)))
    simp [hi, this]
/-- an EXPR in a world -/
def cT (T : Nat → Nat) : Nat → Nat := fun i => T (150 + i)
def ev (T : Nat → Nat) (e w : Nat) : Bool := (evP (qw w) (cT T) (T (84 + e)) (T (117 + e))).1
def may (T : Nat → Nat) (w : Nat) : Bool := allB (fun k => !ev T (T (78 + k)) w) (T 3)
def poss (T : Nat → Nat) (w : Nat) : Bool := decide (w < 2 ^ T 1) && may T w
def won (T : Nat → Nat) (k w : Nat) : Bool := allB (fun i => ev T (T (31 + 4 * k + i)) w) (T (26 + k)) && allB (fun p => !(decide (T (66 + p) = k) && ev T (T (72 + p)) w)) (T 4)
def kn (N : Nat → Nat) (f : Nat) : Bool := decide (N f = 1) || decide (N f = 4)
def knF (N : Nat → Nat) : Nat := bs (kn N) 8
def knS (N : Nat → Nat) : Nat := bs (fun f => kn N f && decide (N (8 + f) = 1)) 8
def agr (T : Nat → Nat) (F S w : Nat) : Bool := poss T w && decide (w &&& F = S)
def lft (T N : Nat → Nat) : Nat → Bool := agr T (knF N) (knS N)
/-- what is told is well formed -/
def WT (T : Nat → Nat) : Prop :=
  (T 0 < 1000 ∧ T 1 ≤ 8 ∧ T 2 ≤ 5 ∧ T 3 ≤ 6 ∧ T 4 ≤ 6 ∧ (1 ≤ T 5 ∧ T 5 ≤ 999) ∧ T 6 ≤ 32 ∧ T 7 ≤ 480) ∧
  (∀ f, f < T 1 → 1 ≤ T (8 + f) ∧ T (8 + f) ≤ 9) ∧
  (∀ k, k < T 2 → T (16 + k) ≤ 999 ∧ T (21 + k) ≤ 999 ∧ T (26 + k) ≤ 4 ∧ (∀ i, i < T (26 + k) → T (31 + 4 * k + i) < T 6) ∧ T (51 + k) < 2 ^ T 1 ∧ T (56 + k) &&& T (51 + k) = T (56 + k) ∧ T (61 + k) < 32) ∧
  (∀ p, p < T 4 → T (66 + p) < T 2 ∧ T (72 + p) < T 6) ∧ (∀ k, k < T 3 → T (78 + k) < T 6) ∧
  (∀ e, e < T 6 → wfE (cT T) (T (84 + e)) (T (117 + e)) ∧ T (117 + e) ≤ T 7) ∧ (∃ w, w < 256 ∧ poss T w = true)
/-- of a COUNT -/
def it (N : Nat → Nat) (k j : Nat) : Nat := N (19 + 8 * k + j)
def WN (T N : Nat → Nat) : Prop :=
  (∀ f, f < 8 → N f ≤ 4 ∧ N (8 + f) ≤ 1 ∧ (N (8 + f) = 1 → kn N f = true) ∧ (T 1 ≤ f → N f = 0)) ∧ N 16 ≤ 1 ∧ N 17 ≤ 9999 ∧ (T 2 ≤ N 18 ∧ N 18 ≤ 8) ∧
  (∀ k, k < N 18 → it N k 0 < T 2 ∧ it N k 1 ≤ N 17 ∧ it N k 2 ≤ 999 ∧ it N k 3 ≤ 999 ∧ it N k 4 < 2 ^ T 1 ∧ it N k 5 &&& it N k 4 = it N k 5 ∧ it N k 6 ≤ 1 ∧ it N k 7 ≤ k ∧ it N (it N k 7) 0 = it N k 0 ∧ (k < T 2 → it N k 7 = k ∧ it N k 0 = k) ∧ (T 2 ≤ k → it N k 7 < k) ∧ ∀ j, j < k → it N j 1 ≤ it N k 1) ∧
  (∃ w, w < 256 ∧ lft T N w = true)
theorem ev_lt {n : Nat} (h : n ≤ 8) : 2 ^ n ≤ 256 := Nat.pow_le_pow_right (n := 2) (by omega) h
theorem knF_lt (N : Nat → Nat) : knF N < 256 := bs_lt _ 8
theorem knS_lt (N : Nat → Nat) : knS N < 256 := bs_lt _ 8
/-! the reference's rows -/
section MTAB
variable {σ : Sg} {I : Nat → Nat → Int32} {L : Nat → Nat → Int64}
theorem nx_or0 (a : Nat) : nI a ||| 0 = nI a := by rw [show (0 : Int32) = nI 0 from rfl, nx_or, Nat.or_zero]
end MTAB
