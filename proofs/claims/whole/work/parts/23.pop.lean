/-! counting bits -/
theorem and_split {a1 a0 m1 m0 : Nat} (ha : a0 < 256) (hm : m0 < 256) : (256 * a1 + a0) &&& (256 * m1 + m0) = 256 * (a1 &&& m1) + (a0 &&& m0) := by
  apply Nat.eq_of_testBit_eq
  intro i
  have h0 : (a0 &&& m0) < 2 ^ 8 := Nat.lt_of_le_of_lt Nat.and_le_left ha
  rw [Nat.testBit_and, show (256 : Nat) = 2 ^ 8 from rfl, Nat.testBit_two_pow_mul_add _ (show a0 < 2 ^ 8 from ha), Nat.testBit_two_pow_mul_add _ (show m0 < 2 ^ 8 from hm), Nat.testBit_two_pow_mul_add _ h0]
  by_cases h : i < 8
  · simp [h, Nat.testBit_and]
  · simp [h, Nat.testBit_and]
def p_a (m x : Nat) : Nat := x - ((x / 2) &&& m)
def p_b (m x : Nat) : Nat := (x &&& m) + ((x / 4) &&& m)
def p_c (m x : Nat) : Nat := (x + x / 16) &&& m
def m55 : Nat → Nat
  | 0 => 0
  | n + 1 => 256 * m55 n + 85
def m33 : Nat → Nat
  | 0 => 0
  | n + 1 => 256 * m33 n + 51
def m0f : Nat → Nat
  | 0 => 0
  | n + 1 => 256 * m0f n + 15
theorem and_drop {a b m : Nat} {k : Nat} (hm : m < 2 ^ k) : (2 ^ k * a + b) &&& m = b &&& m := by
  apply Nat.eq_of_testBit_eq
  intro i
  rw [Nat.testBit_and, Nat.testBit_and]
  by_cases h : i < k
  · congr 1
    have e1 : (2 ^ k * a + b).testBit i = ((2 ^ k * a + b) % 2 ^ k).testBit i := by rw [Nat.testBit_mod_two_pow]; simp [h]
    have e2 : b.testBit i = (b % 2 ^ k).testBit i := by rw [Nat.testBit_mod_two_pow]; simp [h]
    rw [e1, e2, Nat.mul_add_mod]
  · rw [Nat.testBit_lt_two_pow (Nat.lt_of_lt_of_le hm (Nat.pow_le_pow_right (by omega) (by omega)))]
    simp
theorem p_a_split {a0 a1 n : Nat} (h : a0 < 256) : p_a (m55 (n + 1)) (256 * a1 + a0) = 256 * p_a (m55 n) a1 + p_a 85 a0 := by
  unfold p_a
  rw [show m55 (n + 1) = 256 * m55 n + 85 from rfl]
  have e1 : (256 * a1 + a0) / 2 = 256 * (a1 / 2) + (128 * (a1 % 2) + a0 / 2) := by omega
  rw [e1, and_split (by omega) (by omega), show 128 * (a1 % 2) + a0 / 2 = 2 ^ 7 * (a1 % 2) + a0 / 2 from rfl, and_drop (k := 7) (by omega)]
  have h1 : (a1 / 2 &&& m55 n) ≤ a1 / 2 := Nat.and_le_left
  have h2 : (a0 / 2 &&& 85) ≤ a0 / 2 := Nat.and_le_left
  omega
theorem p_b_split {a0 a1 n : Nat} (h : a0 < 256) : p_b (m33 (n + 1)) (256 * a1 + a0) = 256 * p_b (m33 n) a1 + p_b 51 a0 := by
  unfold p_b
  rw [show m33 (n + 1) = 256 * m33 n + 51 from rfl]
  have e1 : (256 * a1 + a0) / 4 = 256 * (a1 / 4) + (64 * (a1 % 4) + a0 / 4) := by omega
  rw [e1, and_split h (by omega), and_split (by omega) (by omega), show 64 * (a1 % 4) + a0 / 4 = 2 ^ 6 * (a1 % 4) + a0 / 4 from rfl, and_drop (k := 6) (by omega)]
  omega
theorem p_c_split {a0 a1 n : Nat} (h : a0 ≤ 68) (h1 : a1 % 16 ≤ 4) : p_c (m0f (n + 1)) (256 * a1 + a0) = 256 * p_c (m0f n) a1 + p_c 15 a0 := by
  unfold p_c
  rw [show m0f (n + 1) = 256 * m0f n + 15 from rfl]
  have e1 : 256 * a1 + a0 + (256 * a1 + a0) / 16 = 256 * (a1 + a1 / 16) + (16 * (a1 % 16) + (a0 + a0 / 16)) := by omega
  rw [e1, and_split (by omega) (by omega), show 16 * (a1 % 16) + (a0 + a0 / 16) = 2 ^ 4 * (a1 % 16) + (a0 + a0 / 16) from rfl, and_drop (k := 4) (by omega)]
/-- a byte -/
theorem pop8 : ∀ b, b < 256 → p_a 85 b < 256 ∧ p_b 51 (p_a 85 b) ≤ 68 ∧ p_b 51 (p_a 85 b) % 16 ≤ 4 ∧ p_c 15 (p_b 51 (p_a 85 b)) = cntB (fun i => b.testBit i) 8 := by decide +kernel
theorem cntB_add (f : Nat → Bool) (m n : Nat) : cntB f (m + n) = cntB f m + cntB (fun i => f (m + i)) n := by
  induction n with
  | zero => rfl
  | succ n ih => rw [← Nat.add_assoc]; simp only [cntB]; rw [ih]; omega
/-- the bytes' counts, put together -/
def byS : Nat → Nat → Nat
  | 0, _ => 0
  | n + 1, x => 256 * byS n (x / 256) + cntB (fun i => (x % 256).testBit i) 8
theorem p_all : ∀ n x, x < 256 ^ n → p_b (m33 n) (p_a (m55 n) x) % 16 ≤ 4 ∧ p_c (m0f n) (p_b (m33 n) (p_a (m55 n) x)) = byS n x := by
  intro n
  induction n with
  | zero =>
    intro x hx
    have : x = 0 := by simpa using hx
    subst this
    exact ⟨by decide, by decide⟩
  | succ n ih =>
    intro x hx
    have hx2 : x / 256 < 256 ^ n := by
      rw [Nat.pow_succ] at hx
      exact Nat.div_lt_of_lt_mul (by rw [Nat.mul_comm]; exact hx)
    obtain ⟨i1, i2⟩ := ih _ hx2
    obtain ⟨b1, b2, b3, b4⟩ := pop8 (x % 256) (by omega)
    have e : x = 256 * (x / 256) + x % 256 := by omega
    have e1 : p_a (m55 (n + 1)) x = 256 * p_a (m55 n) (x / 256) + p_a 85 (x % 256) := by
      conv => lhs; rw [e]
      exact p_a_split (by omega)
    rw [e1, p_b_split b1]
    refine ⟨by omega, ?_⟩
    rw [p_c_split b2 i1, i2, b4]
    rfl
theorem cnt_byte (x n : Nat) : cntB (fun i => x.testBit i) (8 + n) = cntB (fun i => (x % 256).testBit i) 8 + cntB (fun i => (x / 256).testBit i) n := by
  rw [cntB_add]
  congr 1
  · apply cntB_congr
    intro w hw
    rw [show (256 : Nat) = 2 ^ 8 from rfl, Nat.testBit_mod_two_pow]; simp [hw]
  · apply cntB_congr
    intro w hw
    rw [show (256 : Nat) = 2 ^ 8 from rfl, Nat.testBit_div_two_pow, Nat.add_comm]
theorem div_of {x m q r : Nat} (h : x = m * q + r) (hr : r < m) : x / m = q := by
  subst h; rw [Nat.mul_add_div (by omega), Nat.div_eq_of_lt hr, Nat.add_zero]
theorem mod_of {x m q r : Nat} (h : x = m * q + r) (hr : r < m) : x % m = r := by
  subst h; rw [Nat.mul_add_mod, Nat.mod_eq_of_lt hr]
theorem fin_sum (y0 y1 y2 y3 y4 y5 y6 y7 : Nat) (h0 : y0 ≤ 8) (h1 : y1 ≤ 8) (h2 : y2 ≤ 8) (h3 : y3 ≤ 8) (h4 : y4 ≤ 8) (h5 : y5 ≤ 8) (h6 : y6 ≤ 8) (h7 : y7 ≤ 8) (y a b c : Nat)
    (hy : y = 256 * (256 * (256 * (256 * (256 * (256 * (256 * (256 * 0 + y7) + y6) + y5) + y4) + y3) + y2) + y1) + y0) (ha : a = y + y / 256) (hb : b = a + a / 65536) (hc : c = b + b / 4294967296) : c < 2 ^ 62 ∧ b < 2 ^ 62 ∧ a < 2 ^ 62 ∧ y < 2 ^ 62 ∧ c % 128 = y0 + (y1 + (y2 + (y3 + (y4 + (y5 + (y6 + y7)))))) := by
  have e1 : y / 256 = 256 * (256 * (256 * (256 * (256 * (256 * y7 + y6) + y5) + y4) + y3) + y2) + y1 := div_of (r := y0) (by rw [hy]) (by omega)
  rw [e1] at ha
  have e2 : a / 65536 = 256 * (256 * (256 * (256 * (256 * y7 + (y7 + y6)) + (y6 + y5)) + (y5 + y4)) + (y4 + y3)) + (y3 + y2) := by
    refine div_of (r := 256 * (y1 + y2) + (y0 + y1)) ?_ (by omega)
    rw [ha, hy]; omega
  rw [e2] at hb
  have e3 : b / 4294967296 = 256 * (256 * (256 * y7 + (y7 + y6)) + (y7 + y6 + y5)) + (y7 + y6 + y5 + y4) := by
    refine div_of (r := 16777216 * (y6 + y5 + y4 + y3) + 65536 * (y5 + y4 + y3 + y2) + 256 * (y4 + y3 + y2 + y1) + (y3 + y2 + y1 + y0)) ?_ (by omega)
    rw [hb, ha, hy]; omega
  rw [e3] at hc
  have b1 : y < 2 ^ 60 := by rw [hy]; omega
  have b2 : a < 2 ^ 61 := by rw [ha]; omega
  refine ⟨by omega, by omega, by omega, by omega, ?_⟩
  refine mod_of (q := 2 * (16777216 * 65536 * 256 * y7 + 16777216 * 65536 * (y7 + y6) + 16777216 * 256 * (y7 + y6 + y5) + 16777216 * (y7 + y6 + y5 + y4) + 65536 * (y7 + y6 + y5 + y4 + y3) + 256 * (y7 + y6 + y5 + y4 + y3 + y2) + (y7 + y6 + y5 + y4 + y3 + y2 + y1))) ?_ (by omega)
  rw [hc, hb, ha, hy]; omega
theorem lbit_ok (x : Int64) : mJ13_bitCount_95d88 x = some (nI (cntB (fun i => x.toBitVec.getLsbD i) 64)) := by
  obtain ⟨n, hn, rfl⟩ := wb_of x
  have hbits : (fun i => (lN n).toBitVec.getLsbD i) = fun i => decide (i < 64) && n.testBit i := by
    funext i; rw [wb_tb, BitVec.getLsbD_ofNat]
  have hcnt : cntB (fun i => (lN n).toBitVec.getLsbD i) 64 = cntB (fun i => n.testBit i) 64 := by
    rw [hbits]; apply cntB_congr; intro w hw; simp [hw]
  rw [hcnt]
  have us : ∀ (m k : Nat), m < 2 ^ 64 → k < 64 → ushrL (lN m) (nI k) = lN (m / 2 ^ k) := fun m k hm hk => wb_shr hm hk
  have k55 : (6148914691236517205 : Int64) = lN (m55 8) := by decide +kernel
  have k33 : (3689348814741910323 : Int64) = lN (m33 8) := by decide +kernel
  have k0f : (1085102592571150095 : Int64) = lN (m0f 8) := by decide +kernel
  have s55 : m55 8 < 2 ^ 64 := by decide +kernel
  have s33 : m33 8 < 2 ^ 64 := by decide +kernel
  have s0f : m0f 8 < 2 ^ 64 := by decide +kernel
  sorry
