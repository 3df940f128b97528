/-! the reference's sets of worlds, and its counting of bits -/
theorem and2 {a b x y : Nat} (hx : x < 2) (hy : y < 2) : (2 * a + x) &&& (2 * b + y) = 2 * (a &&& b) + (x &&& y) := by
  have hxy : x &&& y < 2 := Nat.lt_of_le_of_lt Nat.and_le_left hx
  apply Nat.eq_of_testBit_eq
  intro i
  cases i with
  | zero =>
    rw [Nat.testBit_and]
    simp only [Nat.testBit_zero]
    have e1 : (2 * a + x) % 2 = x := by omega
    have e2 : (2 * b + y) % 2 = y := by omega
    have e3 : (2 * (a &&& b) + (x &&& y)) % 2 = x &&& y := by omega
    rw [e1, e2, e3]
    rcases (show x = 0 ∨ x = 1 by omega) with rfl | rfl <;> rcases (show y = 0 ∨ y = 1 by omega) with rfl | rfl <;> rfl
  | succ i =>
    rw [Nat.testBit_and, Nat.testBit_succ, Nat.testBit_succ, Nat.testBit_succ, show (2 * a + x) / 2 = a by omega, show (2 * b + y) / 2 = b by omega, show (2 * (a &&& b) + (x &&& y)) / 2 = a &&& b by omega, Nat.testBit_and]
theorem cnt_half (n m : Nat) : cntB (fun i => n.testBit i) (m + 1) = (if n % 2 = 1 then 1 else 0) + cntB (fun i => (n / 2).testBit i) m := by
  rw [Nat.add_comm m 1, cntB_add]
  congr 1
  · show (0 + if n.testBit 0 = true then 1 else 0) = _
    rw [Nat.testBit_zero]; by_cases h : n % 2 = 1 <;> simp [h]
  · apply cntB_congr; intro i hi
    show n.testBit (1 + i) = (n / 2).testBit i
    rw [Nat.add_comm 1 i, Nat.testBit_succ]
theorem cnt_clear : ∀ m n, 0 < n → n < 2 ^ m → cntB (fun i => n.testBit i) m = cntB (fun i => (n &&& (n - 1)).testBit i) m + 1 := by
  intro m
  induction m with
  | zero => intro n h1 h2; simp at h2; omega
  | succ m ih =>
    intro n h1 h2
    rw [cnt_half, cnt_half]
    by_cases hodd : n % 2 = 1
    · have e : n &&& (n - 1) = 2 * (n / 2) := by
        have := and2 (a := n / 2) (b := n / 2) (x := 1) (y := 0) (by omega) (by omega)
        rw [show 2 * (n / 2) + 1 = n by omega, show 2 * (n / 2) + 0 = n - 1 by omega] at this
        rw [this, Nat.and_self]; simp
      rw [e, if_pos hodd, if_neg (by omega), show 2 * (n / 2) / 2 = n / 2 by omega]; omega
    · have e : n &&& (n - 1) = 2 * (n / 2 &&& (n / 2 - 1)) := by
        have := and2 (a := n / 2) (b := n / 2 - 1) (x := 0) (y := 1) (by omega) (by omega)
        rw [show 2 * (n / 2) + 0 = n by omega, show 2 * (n / 2 - 1) + 1 = n - 1 by omega] at this
        rw [this]; rfl
      have h3 := ih (n / 2) (by omega) (by rw [Nat.pow_succ] at h2; omega)
      rw [e, if_neg hodd, if_neg (by omega), show 2 * (n / 2 &&& (n / 2 - 1)) / 2 = (n / 2 &&& (n / 2 - 1)) by omega, h3]; omega
theorem nI_z {n : Nat} (h : n < 2 ^ 32) : (nI n = 0) = (n = 0) := by
  apply propext
  constructor
  · intro e
    have := congrArg (fun x => x.toBitVec.toNat) e
    have h1 : (nI n).toBitVec.toNat = n := by show (BitVec.ofNat 32 n).toNat = n; rw [BitVec.toNat_ofNat, Nat.mod_eq_of_lt h]
    have h2 : (0 : Int32).toBitVec.toNat = 0 := by decide
    rw [h1, h2] at this; exact this
  · intro e; subst e; rfl
/-- how many of the first eight -/
def pc (n : Nat) : Nat := cntB (fun i => n.testBit i) 8
theorem tb_big {n i : Nat} (h : n < 256) (hi : 8 ≤ i) : n.testBit i = false := Nat.testBit_lt_two_pow (Nat.lt_of_lt_of_le h (Nat.pow_le_pow_right (n := 2) (by omega) hi))
theorem cnt32 {n : Nat} (h : n < 256) : cntB (bt (nI n)) 32 = pc n := by
  have : (32 : Nat) = 8 + 24 := rfl
  rw [this, cntB_add]
  have z : cntB (fun i => bt (nI n) (8 + i)) 24 = 0 := by
    rw [cntB_0]
    cases hb : anyB (fun i => bt (nI n) (8 + i)) 24
    · rfl
    · obtain ⟨w, hw, e⟩ := anyB_iff.mp hb
      rw [bt_n (by omega), tb_big h (by omega)] at e; cases e
  rw [z, Nat.add_zero]
  exact cntB_congr fun i hi => bt_n (by omega)
theorem cbits_ok : ∀ n, n < 256 → mJ6_bitCount_0f7a4 (nI n) = some (nI (pc n)) := by decide +kernel
theorem pc_le (n : Nat) : pc n ≤ 8 := cntB_le _ _
/-! sets, 32 worlds a number -/
def mw (r : Nat → Int32) (k w : Nat) : Bool := bt (r (8 * k + w / 32)) (w % 32)
def Rm (r : Nat → Int32) (k : Nat) (f : Nat → Bool) : Prop := ∀ w, w < 256 → mw r k w = f w
theorem ushr_bit (x : Int32) {j : Nat} (hj : j < 32) : ushrI x (nI j) &&& 1 = bI (bt x j) := by
  apply b_ext; intro i hi
  have h1 : ∀ i, i < 32 → bt 1 i = decide (i = 0) := by decide +kernel
  have hu : bt (ushrI x (nI j)) i = bt x (j + i) := b_ushr j hj x i
  rw [b_and, h1 i hi, hu]
  have h2 : bt (bI (bt x j)) i = (bt x j && decide (i = 0)) := by
    cases bt x j
    · simp [bI, b_0]
    · simp [bI, h1 i hi]
  rw [h2]
  by_cases e : i = 0
  · subst e; simp
  · simp [e]
theorem w_h5 {w : Nat} (h : w < 256) : nI w >>> ((5 : Int32) &&& 31) = nI (w / 32) := by
  have := shr_n (a := w) (f := 5) (by omega) (by omega)
  rw [Nat.shiftRight_eq_div_pow] at this
  exact this
theorem w_l5 {w : Nat} : nI w &&& (31 : Int32) = nI (w % 32) := by
  rw [show (31 : Int32) = nI 31 from rfl, nx_and, show (31 : Nat) = 2 ^ 5 - 1 from rfl, Nat.and_two_pow_sub_one_eq_mod]
section MS
variable {σ : Sg} {I : Nat → Nat → Int32} {L : Nat → Nat → Int64}
def addR (r : Nat → Int32) (k w : Nat) (b : Bool) : Nat → Int32 := if b = true then updA r (8 * k + w / 32) (r (8 * k + w / 32) ||| nI (2 ^ (w % 32))) else r
theorem shl31 : ∀ f, f < 32 → (1 : Int32) <<< (nI f &&& 31) = nI (2 ^ f) := by decide +kernel
theorem mw_add (r : Nat → Int32) (k w j v : Nat) (b : Bool) (hv : v < 256) (hw : w < 256) : mw (addR r k w b) j v = (mw r j v || (b && decide (j = k ∧ v = w))) := by
  unfold addR
  cases b
  · simp
  · rw [if_pos rfl]
    unfold mw
    rw [updA_at]
    by_cases e : 8 * j + v / 32 = 8 * k + w / 32
    · rw [if_pos e, b_or, bt_n (by omega), Nat.testBit_two_pow]
      have hjk : j = k := by omega
      subst hjk
      rw [e]
      by_cases hvw : v = w
      · subst hvw; simp
      · have h2 : ¬ w % 32 = v % 32 := by omega
        simp [h2, hvw]
    · rw [if_neg e]
      have : ¬ (j = k ∧ v = w) := fun h => e (by omega)
      simp [this]
theorem cnt_sub (f g : Nat → Bool) (n : Nat) : cntB (fun w => f w && g w) n = cntB f n ↔ allB (fun w => !f w || g w) n = true := by
  have le : ∀ n, cntB (fun w => f w && g w) n ≤ cntB f n := by
    intro n
    induction n with
    | zero => exact Nat.le_refl _
    | succ n ih =>
      simp only [cntB]
      by_cases h1 : f n = true <;> by_cases h2 : g n = true <;> simp [h1, h2] <;> omega
  induction n with
  | zero => simp [cntB, allB]
  | succ n ih =>
    have := le n
    simp only [cntB, allB, Bool.and_eq_true, ← ih]
    by_cases h1 : f n = true <;> by_cases h2 : g n = true <;> simp [h1, h2] <;> omega
end MS
