section Duel
variable {σ : Sg} {I I' J I1 I2 : Nat → Nat → Int32} {L L' L1 L2 : Nat → Nat → Int64}
/-- whether a way leaves a world -/
def lv (T N : Nat → Nat) (x : Nat) : Bool := decide (cn (lft T N) (T 1) x ≠ 0)
def ch (T N : Nat → Nat) (W : Nat → Bool) (pl : Bool) (y : Nat) : Bool := lv T N y && (W y == pl)
def aL (T N : Nat → Nat) (x n : Nat) : Bool := anyB (fun f => unk N x f && (lv T N (x + 1 * 3 ^ f) || lv T N (x + 2 * 3 ^ f))) n
def aE (T N : Nat → Nat) (W : Nat → Bool) (pl : Bool) (x n : Nat) : Bool := anyB (fun f => unk N x f && (ch T N W pl (x + 1 * 3 ^ f) || ch T N W pl (x + 2 * 3 ^ f))) n
def tc (x n : Nat) : Nat := cntB (fun f => !decide (dg x f = 0)) n
def plz (T : Nat → Nat) (fi x : Nat) : Bool := decide ((fi + tc x (T 1)) % 2 = 0)
def dvl (T N : Nat → Nat) (k fi : Nat) : Nat → Nat → Bool
  | 0, _ => false
  | m + 1, x => if aL T N x (T 1) = true then (aE T N (fun y => dvl T N k fi m y) (plz T fi x) x (T 1) == plz T fi x) else decide (cn (lw T N k) (T 1) x ≠ 0)
theorem unk_d {N : Nat → Nat} {x f : Nat} (h : unk N x f = true) : dg x f = 0 := by
  unfold unk at h
  rw [Bool.and_eq_true] at h
  exact of_decide_eq_true h.2
theorem aE_congr {T N : Nat → Nat} {W W' : Nat → Bool} {pl : Bool} {x n : Nat} (h : ∀ f, f < n → unk N x f = true → W (x + 1 * 3 ^ f) = W' (x + 1 * 3 ^ f) ∧ W (x + 2 * 3 ^ f) = W' (x + 2 * 3 ^ f)) : aE T N W pl x n = aE T N W' pl x n := by
  unfold aE
  refine anyB_congr fun f hf => ?_
  by_cases hu : unk N x f = true
  · obtain ⟨h1, h2⟩ := h f hf hu
    unfold ch
    rw [h1, h2]
  · rw [Bool.not_eq_true] at hu
    rw [hu, Bool.false_and, Bool.false_and]
theorem dvl_st {T N : Nat → Nat} {k fi : Nat} : ∀ m m' x, x < 3 ^ T 1 → 3 ^ T 1 - x ≤ m → 3 ^ T 1 - x ≤ m' → dvl T N k fi m x = dvl T N k fi m' x
  | 0, m', x, h1, h2, h3 => by omega
  | m + 1, 0, x, h1, h2, h3 => by omega
  | m + 1, m' + 1, x, h1, h2, h3 => by
    have e : aE T N (fun y => dvl T N k fi m y) (plz T fi x) x (T 1) = aE T N (fun y => dvl T N k fi m' y) (plz T fi x) x (T 1) := aE_congr fun f hf hp => by
      have hd := unk_d hp
      have p3 := p3_pos f
      have a1 := put_lt h1 hf hd (d := 1) (by omega)
      have a2 := put_lt h1 hf hd (d := 2) (by omega)
      exact ⟨dvl_st m m' (x + 1 * 3 ^ f) a1 (by omega) (by omega), dvl_st m m' (x + 2 * 3 ^ f) a2 (by omega) (by omega)⟩
    show (if aL T N x (T 1) = true then (aE T N (fun y => dvl T N k fi m y) (plz T fi x) x (T 1) == plz T fi x) else decide (cn (lw T N k) (T 1) x ≠ 0)) = (if aL T N x (T 1) = true then (aE T N (fun y => dvl T N k fi m' y) (plz T fi x) x (T 1) == plz T fi x) else decide (cn (lw T N k) (T 1) x ≠ 0))
    rw [e]
/-- whether the one who pleads wins from there on -/
def dv (T N : Nat → Nat) (k fi x : Nat) : Bool := dvl T N k fi (3 ^ T 1 - x) x
theorem dv_eq {T N : Nat → Nat} {k fi x : Nat} (hx : x < 3 ^ T 1) : dv T N k fi x = if aL T N x (T 1) = true then (aE T N (dv T N k fi) (plz T fi x) x (T 1) == plz T fi x) else decide (cn (lw T N k) (T 1) x ≠ 0) := by
  unfold dv
  obtain ⟨m, hm⟩ : ∃ m, 3 ^ T 1 - x = m + 1 := ⟨3 ^ T 1 - x - 1, by omega⟩
  have e : aE T N (fun y => dvl T N k fi m y) (plz T fi x) x (T 1) = aE T N (fun y => dvl T N k fi (3 ^ T 1 - y) y) (plz T fi x) x (T 1) := aE_congr fun f hf hp => by
    have hd := unk_d hp
    have p3 := p3_pos f
    have a1 := put_lt hx hf hd (d := 1) (by omega)
    have a2 := put_lt hx hf hd (d := 2) (by omega)
    exact ⟨dvl_st m (3 ^ T 1 - (x + 1 * 3 ^ f)) (x + 1 * 3 ^ f) a1 (by omega) (by omega), dvl_st m (3 ^ T 1 - (x + 2 * 3 ^ f)) (x + 2 * 3 ^ f) a2 (by omega) (by omega)⟩
  rw [hm]
  show (if aL T N x (T 1) = true then (aE T N (fun y => dvl T N k fi m y) (plz T fi x) x (T 1) == plz T fi x) else decide (cn (lw T N k) (T 1) x ≠ 0)) = _
  rw [e]
theorem aE_aL {T N : Nat → Nat} {W : Nat → Bool} {pl : Bool} {x n : Nat} (h : aL T N x n = false) : aE T N W pl x n = false := by
  unfold aL at h
  unfold aE
  induction n with
  | zero => rfl
  | succ n ih =>
    simp only [anyB] at h ⊢
    rw [Bool.or_eq_false_iff] at h
    rw [ih h.1, Bool.false_or]
    have h2 := h.2
    unfold ch
    revert h2
    cases unk N x n <;> cases lv T N (x + 1 * 3 ^ n) <;> cases lv T N (x + 2 * 3 ^ n) <;> simp
theorem anyB_gap {p : Nat → Bool} {n m : Nat} (h : n ≤ m) (hz : ∀ f, n ≤ f → f < m → p f = false) : anyB p m = anyB p n := by
  obtain ⟨e, rfl⟩ := Nat.le.dest h
  clear h
  induction e with
  | zero => rfl
  | succ e ih =>
    show (anyB p (n + e) || p (n + e)) = _
    rw [hz (n + e) (by omega) (by omega), Bool.or_false]
    exact ih fun f h1 h2 => hz f h1 (by omega)
theorem aL_gap {T N : Nat → Nat} {x n m : Nat} (h : n ≤ m) (hz : ∀ f, n ≤ f → f < m → dg x f ≠ 0) : aL T N x m = aL T N x n := anyB_gap h fun f h1 h2 => by
  unfold unk; rw [decide_eq_false (hz f h1 h2), Bool.and_false, Bool.false_and]
theorem aE_gap {T N : Nat → Nat} {W : Nat → Bool} {pl : Bool} {x n m : Nat} (h : n ≤ m) (hz : ∀ f, n ≤ f → f < m → dg x f ≠ 0) : aE T N W pl x m = aE T N W pl x n := anyB_gap h fun f h1 h2 => by
  unfold unk; rw [decide_eq_false (hz f h1 h2), Bool.and_false, Bool.false_and]
/-- how far the least, the greatest has come -/
def eD (a e p : Bool) : Int32 := if a = true then bI (e == p) else -1
theorem bI_m1 (b : Bool) : ¬ bI b = -1 := by cases b <;> decide
theorem mmin_b (a b : Bool) : mmin (bI a) (bI b) = bI (a && b) := by cases a <;> cases b <;> rfl
theorem mmax_b (a b : Bool) : mmax (bI a) (bI b) = bI (a || b) := by cases a <;> cases b <;> rfl
theorem eD_1 (T N : Nat → Nat) (W : Nat → Bool) (p e : Bool) (y : Nat) (hl : lv T N y = true) : bI (W y) = eD (false || lv T N y) (false || ch T N W p y) p := by
  unfold eD ch; rw [hl]
  cases W y <;> cases p <;> rfl
theorem eD_2 (T N : Nat → Nat) (W : Nat → Bool) (e : Bool) (y : Nat) (hl : lv T N y = true) : mmin (eD true e false) (bI (W y)) = eD (true || lv T N y) (e || ch T N W false y) false := by
  unfold eD ch; rw [hl]
  cases W y <;> cases e <;> rfl
theorem eD_3 (T N : Nat → Nat) (W : Nat → Bool) (e : Bool) (y : Nat) (hl : lv T N y = true) : mmax (eD true e true) (bI (W y)) = eD (true || lv T N y) (e || ch T N W true y) true := by
  unfold eD ch; rw [hl]
  cases W y <;> cases e <;> rfl
theorem nI_m2 {a : Nat} (ha : a < 2147483648) : nI a - nI a / 2 * 2 = nI (a % 2) := by
  rw [show nI a / (2 : Int32) = nI (a / 2) from nI_div (b := 2) ha (by omega) (by omega), show (2 : Int32) = nI 2 from rfl, pk_mul, nI_sub (by omega)]; congr 1; omega
theorem aLS (T N : Nat → Nat) (x n : Nat) : aL T N x (n + 1) = (aL T N x n || (unk N x n && (lv T N (x + 1 * 3 ^ n) || lv T N (x + 2 * 3 ^ n)))) := rfl
theorem aES (T N : Nat → Nat) (W : Nat → Bool) (p : Bool) (x n : Nat) : aE T N W p x (n + 1) = (aE T N W p x n || (unk N x n && (ch T N W p (x + 1 * 3 ^ n) || ch T N W p (x + 2 * 3 ^ n)))) := rfl
end Duel
