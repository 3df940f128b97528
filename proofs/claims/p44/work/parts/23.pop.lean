/-! counting bits -/
theorem and_split {a1 a0 m1 m0 : Nat} (ha : a0 < 256) (hm : m0 < 256) : (256 * a1 + a0) &&& (256 * m1 + m0) = 256 * (a1 &&& m1) + (a0 &&& m0) := by
  apply Nat.eq_of_testBit_eq
  intro i
  have h0 : (a0 &&& m0) < 2 ^ 8 := Nat.lt_of_le_of_lt Nat.and_le_left ha
  rw [Nat.testBit_and, show (256 : Nat) = 2 ^ 8 from rfl, Nat.testBit_two_pow_mul_add _ (show a0 < 2 ^ 8 from ha), Nat.testBit_two_pow_mul_add _ (show m0 < 2 ^ 8 from hm), Nat.testBit_two_pow_mul_add _ h0]
  by_cases h : i < 8
  · simp [h, Nat.testBit_and]
  · simp [h, Nat.testBit_and]
def p_a (m x : Nat) : Nat := x - ((x / 2) &&& m)
def p_b (m x : Nat) : Nat := (x &&& m) + ((x / 4) &&& m)
def p_c (m x : Nat) : Nat := (x + x / 16) &&& m
def m55 : Nat → Nat
  | 0 => 0
  | n + 1 => 256 * m55 n + 85
def m33 : Nat → Nat
  | 0 => 0
  | n + 1 => 256 * m33 n + 51
def m0f : Nat → Nat
  | 0 => 0
  | n + 1 => 256 * m0f n + 15
theorem and_drop {a b m : Nat} {k : Nat} (hm : m < 2 ^ k) : (2 ^ k * a + b) &&& m = b &&& m := by
  apply Nat.eq_of_testBit_eq
  intro i
  rw [Nat.testBit_and, Nat.testBit_and]
  by_cases h : i < k
  · congr 1
    have e1 : (2 ^ k * a + b).testBit i = ((2 ^ k * a + b) % 2 ^ k).testBit i := by rw [Nat.testBit_mod_two_pow]; simp [h]
    have e2 : b.testBit i = (b % 2 ^ k).testBit i := by rw [Nat.testBit_mod_two_pow]; simp [h]
    rw [e1, e2, Nat.mul_add_mod]
  · rw [Nat.testBit_lt_two_pow (Nat.lt_of_lt_of_le hm (Nat.pow_le_pow_right (by omega) (by omega)))]
    simp
theorem p_a_split {a0 a1 n : Nat} (h : a0 < 256) : p_a (m55 (n + 1)) (256 * a1 + a0) = 256 * p_a (m55 n) a1 + p_a 85 a0 := by
  unfold p_a
  rw [show m55 (n + 1) = 256 * m55 n + 85 from rfl]
  have e1 : (256 * a1 + a0) / 2 = 256 * (a1 / 2) + (128 * (a1 % 2) + a0 / 2) := by omega
  rw [e1, and_split (by omega) (by omega), show 128 * (a1 % 2) + a0 / 2 = 2 ^ 7 * (a1 % 2) + a0 / 2 from rfl, and_drop (k := 7) (by omega)]
  have h1 : (a1 / 2 &&& m55 n) ≤ a1 / 2 := Nat.and_le_left
  have h2 : (a0 / 2 &&& 85) ≤ a0 / 2 := Nat.and_le_left
  omega
theorem p_b_split {a0 a1 n : Nat} (h : a0 < 256) : p_b (m33 (n + 1)) (256 * a1 + a0) = 256 * p_b (m33 n) a1 + p_b 51 a0 := by
  unfold p_b
  rw [show m33 (n + 1) = 256 * m33 n + 51 from rfl]
  have e1 : (256 * a1 + a0) / 4 = 256 * (a1 / 4) + (64 * (a1 % 4) + a0 / 4) := by omega
  rw [e1, and_split h (by omega), and_split (by omega) (by omega), show 64 * (a1 % 4) + a0 / 4 = 2 ^ 6 * (a1 % 4) + a0 / 4 from rfl, and_drop (k := 6) (by omega)]
  omega
theorem p_c_split {a0 a1 n : Nat} (h : a0 ≤ 68) (h1 : a1 % 16 ≤ 4) : p_c (m0f (n + 1)) (256 * a1 + a0) = 256 * p_c (m0f n) a1 + p_c 15 a0 := by
  unfold p_c
  rw [show m0f (n + 1) = 256 * m0f n + 15 from rfl]
  have e1 : 256 * a1 + a0 + (256 * a1 + a0) / 16 = 256 * (a1 + a1 / 16) + (16 * (a1 % 16) + (a0 + a0 / 16)) := by omega
  rw [e1, and_split (by omega) (by omega), show 16 * (a1 % 16) + (a0 + a0 / 16) = 2 ^ 4 * (a1 % 16) + (a0 + a0 / 16) from rfl, and_drop (k := 4) (by omega)]
/-- a byte -/
theorem pop8 : ∀ b, b < 256 → p_a 85 b < 256 ∧ p_b 51 (p_a 85 b) ≤ 68 ∧ p_b 51 (p_a 85 b) % 16 ≤ 4 ∧ p_c 15 (p_b 51 (p_a 85 b)) = cntB (fun i => b.testBit i) 8 := by decide +kernel
theorem cntB_add (f : Nat → Bool) (m n : Nat) : cntB f (m + n) = cntB f m + cntB (fun i => f (m + i)) n := by
  induction n with
  | zero => rfl
  | succ n ih => rw [← Nat.add_assoc]; simp only [cntB]; rw [ih]; omega
/-- the bytes' counts, put together -/
def byS : Nat → Nat → Nat
  | 0, _ => 0
  | n + 1, x => 256 * byS n (x / 256) + cntB (fun i => (x % 256).testBit i) 8
theorem p_all : ∀ n x, x < 256 ^ n → p_b (m33 n) (p_a (m55 n) x) % 16 ≤ 4 ∧ p_c (m0f n) (p_b (m33 n) (p_a (m55 n) x)) = byS n x := by
  intro n
  induction n with
  | zero =>
    intro x hx
    have : x = 0 := by simpa using hx
    subst this
    exact ⟨by decide, by decide⟩
  | succ n ih =>
    intro x hx
    have hx2 : x / 256 < 256 ^ n := by
      rw [Nat.pow_succ] at hx
      exact Nat.div_lt_of_lt_mul (by rw [Nat.mul_comm]; exact hx)
    obtain ⟨i1, i2⟩ := ih _ hx2
    obtain ⟨b1, b2, b3, b4⟩ := pop8 (x % 256) (by omega)
    have e : x = 256 * (x / 256) + x % 256 := by omega
    have e1 : p_a (m55 (n + 1)) x = 256 * p_a (m55 n) (x / 256) + p_a 85 (x % 256) := by
      conv => lhs; rw [e]
      exact p_a_split (by omega)
    rw [e1, p_b_split b1]
    refine ⟨by omega, ?_⟩
    rw [p_c_split b2 i1, i2, b4]
    rfl
theorem cnt_byte (x n : Nat) : cntB (fun i => x.testBit i) (8 + n) = cntB (fun i => (x % 256).testBit i) 8 + cntB (fun i => (x / 256).testBit i) n := by
  rw [cntB_add]
  congr 1
  · apply cntB_congr
    intro w hw
    rw [show (256 : Nat) = 2 ^ 8 from rfl, Nat.testBit_mod_two_pow]; simp [hw]
  · apply cntB_congr
    intro w hw
    rw [show (256 : Nat) = 2 ^ 8 from rfl, Nat.testBit_div_two_pow, Nat.add_comm]
theorem div_of {x m q r : Nat} (h : x = m * q + r) (hr : r < m) : x / m = q := by
  subst h; rw [Nat.mul_add_div (by omega), Nat.div_eq_of_lt hr, Nat.add_zero]
theorem mod_of {x m q r : Nat} (h : x = m * q + r) (hr : r < m) : x % m = r := by
  subst h; rw [Nat.mul_add_mod, Nat.mod_eq_of_lt hr]
theorem fin_sum (c0 c1 c2 c3 c4 c5 c6 c7 : Nat) (h0 : c0 ≤ 8) (h1 : c1 ≤ 8) (h2 : c2 ≤ 8) (h3 : c3 ≤ 8) (h4 : c4 ≤ 8) (h5 : c5 ≤ 8) (h6 : c6 ≤ 8) (h7 : c7 ≤ 8) (y y1 y2 y3 y4 y5 y6 a b c : Nat)
    (e0 : y = 256 * y1 + c0) (e1 : y1 = 256 * y2 + c1) (e2 : y2 = 256 * y3 + c2) (e3 : y3 = 256 * y4 + c3) (e4 : y4 = 256 * y5 + c4) (e5 : y5 = 256 * y6 + c5) (e6 : y6 = 256 * c7 + c6)
    (ha : a = y + y / 256) (hb : b = a + a / 65536) (hc : c = b + b / 4294967296) : c < 2 ^ 62 ∧ b < 2 ^ 62 ∧ a < 2 ^ 62 ∧ y < 2 ^ 62 ∧ c % 128 = c0 + (c1 + (c2 + (c3 + (c4 + (c5 + (c6 + c7)))))) := by
  have d1 : y / 256 = y1 := div_of e0 (by omega)
  rw [d1] at ha
  have d2 : a / 65536 = y2 + y3 := by
    refine div_of (r := 256 * c2 + 257 * c1 + c0) ?_ (by omega)
    rw [ha, e0, e1, e2]; omega
  rw [d2] at hb
  have d3 : b / 4294967296 = y4 + y5 + y6 + c7 := by
    refine div_of (r := 16777216 * (c3 + c4 + c5 + c6) + 65536 * (c2 + c3 + c4 + c5) + 256 * (c1 + c2 + c3 + c4) + (c0 + c1 + c2 + c3)) ?_ (by omega)
    rw [hb, ha, e0, e1, e2, e3, e4, e5, e6]; omega
  rw [d3] at hc
  have b6 : y6 ≤ 2056 := by omega
  have b5 : y5 ≤ 526344 := by omega
  have b4 : y4 ≤ 134744072 := by omega
  have b3 : y3 ≤ 34494482440 := by omega
  have b2 : y2 ≤ 8830587504648 := by omega
  have b1 : y1 ≤ 2260630401189896 := by omega
  have b0 : y ≤ 578721382704613384 := by omega
  clear d1 d2 d3
  refine ⟨by omega, by omega, by omega, by omega, ?_⟩
  refine mod_of (q := 2 * (y1 + y2 + y3 + y4 + y5 + y6 + c7)) ?_ (by omega)
  rw [hc, hb, ha]; omega
theorem m55_8 : m55 8 = 6148914691236517205 := by decide +kernel
theorem m33_8 : m33 8 = 3689348814741910323 := by decide +kernel
theorem m0f_8 : m0f 8 = 1085102592571150095 := by decide +kernel
theorem byS_c (n x : Nat) : byS (n + 1) x = 256 * byS n (x / 256) + cntB (fun i => (x % 256).testBit i) 8 := rfl
theorem us_L {m : Nat} (k : Nat) {K : Int32} (hK : K = nI k) (hm : m < 2 ^ 64) (hk : k < 64) : ushrL (lN m) K = lN (m / 2 ^ k) := by subst hK; exact wb_shr hm hk
theorem lbit_fin (c : Nat) (hc : c < 2 ^ 62) (s : Nat) (hs : c % 128 = s) : (lN c).toInt32 &&& 127 = nI s := by
  rw [lN_i, show (127 : Int32) = nI 127 from rfl, nx_and, show (127 : Nat) = 2 ^ 7 - 1 from rfl, Nat.and_two_pow_sub_one_eq_mod]
  subst hs; rfl
theorem lbit_tail (y : Nat) (hy : y < 2 ^ 62) (ha : y + y / 256 < 2 ^ 62) (hb : (y + y / 256) + (y + y / 256) / 65536 < 2 ^ 62) (s : Nat)
    (hs : (((y + y / 256) + (y + y / 256) / 65536) + ((y + y / 256) + (y + y / 256) / 65536) / 4294967296) % 128 = s)
    (hc : ((y + y / 256) + (y + y / 256) / 65536) + ((y + y / 256) + (y + y / 256) / 65536) / 4294967296 < 2 ^ 62) :
    mJ13_bitCount_95d88_b41 (lN y + ushrL (lN y) (8 : Int32)) = some (nI s) := by
  unfold mJ13_bitCount_95d88_b41 mJ13_bitCount_95d88_b55
  rw [us_L (K := 8) 8 rfl (by omega) (by omega), lN_add, show (2 : Nat) ^ 8 = 256 from rfl]
  rw [us_L (K := 16) 16 rfl (by omega) (by omega), lN_add, show (2 : Nat) ^ 16 = 65536 from rfl]
  rw [us_L (K := 32) 32 rfl (by omega) (by omega), lN_add, show (2 : Nat) ^ 32 = 4294967296 from rfl]
  rw [lbit_fin _ hc s hs]
theorem cnt_byte0 (x : Nat) : cntB (fun i => x.testBit i) 8 = cntB (fun i => (x % 256).testBit i) 8 := by
  have := cnt_byte x 0
  simpa [cntB] using this
theorem lbit_ok (x : Int64) : mJ13_bitCount_95d88 x = some (nI (cntB (fun i => x.toBitVec.getLsbD i) 64)) := by
  obtain ⟨n, hn, rfl⟩ := wb_of x
  have hbits : (fun i => (lN n).toBitVec.getLsbD i) = fun i => decide (i < 64) && n.testBit i := by
    funext i; rw [wb_tb, BitVec.getLsbD_ofNat]
  have hcnt : cntB (fun i => (lN n).toBitVec.getLsbD i) 64 = cntB (fun i => n.testBit i) 64 := by
    rw [hbits]; apply cntB_congr; intro w hw; simp [hw]
  rw [hcnt]
  have k55 : (6148914691236517205 : Int64) = lN (m55 8) := by decide +kernel
  have k33 : (3689348814741910323 : Int64) = lN (m33 8) := by decide +kernel
  have k0f : (1085102592571150095 : Int64) = lN (m0f 8) := by decide +kernel
  have s55 : m55 8 < 2 ^ 64 := by decide +kernel
  have s33 : m33 8 < 2 ^ 64 := by decide +kernel
  have s0f : m0f 8 < 2 ^ 64 := by decide +kernel
  have h1 : lN n - (ushrL (lN n) (1 : Int32) &&& (6148914691236517205 : Int64)) = lN (p_a (m55 8) n) := by
    rw [us_L (K := 1) 1 rfl hn (by omega), k55, wb_and (by omega) s55]
    have : (n / 2 ^ 1 &&& m55 8) ≤ n / 2 ^ 1 := Nat.and_le_left
    rw [lN_sub (by omega)]; rfl
  have ha : p_a (m55 8) n < 2 ^ 64 := by unfold p_a; omega
  have h2 : (lN (p_a (m55 8) n) &&& (3689348814741910323 : Int64)) + (ushrL (lN (p_a (m55 8) n)) (2 : Int32) &&& (3689348814741910323 : Int64)) = lN (p_b (m33 8) (p_a (m55 8) n)) := by
    rw [us_L (K := 2) 2 rfl ha (by omega), k33, wb_and ha s33, wb_and (by omega) s33, lN_add]; rfl
  have hb : p_b (m33 8) (p_a (m55 8) n) ≤ 2 * m33 8 := by
    unfold p_b
    have a1 : (p_a (m55 8) n &&& m33 8) ≤ m33 8 := Nat.and_le_right
    have a2 : (p_a (m55 8) n / 4 &&& m33 8) ≤ m33 8 := Nat.and_le_right
    omega
  have hb3 : p_b (m33 8) (p_a (m55 8) n) < 2 ^ 63 := by have := m33_8; omega
  have h3 : (lN (p_b (m33 8) (p_a (m55 8) n)) + ushrL (lN (p_b (m33 8) (p_a (m55 8) n))) (4 : Int32)) &&& (1085102592571150095 : Int64) = lN (p_c (m0f 8) (p_b (m33 8) (p_a (m55 8) n))) := by
    rw [us_L (K := 4) 4 rfl (by omega) (by omega), k0f, lN_add, wb_and (by omega) s0f]; rfl
  unfold mJ13_bitCount_95d88 mJ13_bitCount_95d88_b24
  rw [h1, h2, h3, (p_all 8 n (Nat.lt_of_lt_of_le hn (by decide))).2]
  have c8 : ∀ x : Nat, cntB (fun i => (x % 256).testBit i) 8 ≤ 8 := fun x => cntB_le _ 8
  have F := fin_sum (cntB (fun i => (n % 256).testBit i) 8) (cntB (fun i => (n / 256 % 256).testBit i) 8) (cntB (fun i => (n / 256 / 256 % 256).testBit i) 8) (cntB (fun i => (n / 256 / 256 / 256 % 256).testBit i) 8) (cntB (fun i => (n / 256 / 256 / 256 / 256 % 256).testBit i) 8) (cntB (fun i => (n / 256 / 256 / 256 / 256 / 256 % 256).testBit i) 8) (cntB (fun i => (n / 256 / 256 / 256 / 256 / 256 / 256 % 256).testBit i) 8) (cntB (fun i => (n / 256 / 256 / 256 / 256 / 256 / 256 / 256 % 256).testBit i) 8)
    (c8 _) (c8 _) (c8 _) (c8 _) (c8 _) (c8 _) (c8 _) (c8 _) (byS 8 n) _ _ _ _ _ _ _ _ _ rfl rfl rfl rfl rfl rfl (by show 256 * (256 * 0 + _) + _ = _; omega) rfl rfl rfl
  refine lbit_tail _ F.2.2.2.1 F.2.2.1 F.2.1 _ ?_ F.1
  rw [F.2.2.2.2]
  rw [show (64 : Nat) = 8 + 56 from rfl, cnt_byte, show (56 : Nat) = 8 + 48 from rfl, cnt_byte, show (48 : Nat) = 8 + 40 from rfl, cnt_byte, show (40 : Nat) = 8 + 32 from rfl, cnt_byte, show (32 : Nat) = 8 + 24 from rfl, cnt_byte, show (24 : Nat) = 8 + 16 from rfl, cnt_byte, show (16 : Nat) = 8 + 8 from rfl, cnt_byte, cnt_byte0 (n / 256 / 256 / 256 / 256 / 256 / 256 / 256)]
