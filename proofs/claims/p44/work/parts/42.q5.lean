section Q5
variable {σ : Sg} {I I' : Nat → Nat → Int32} {L L' : Nat → Nat → Int64}
theorem lN_div {a b : Nat} (ha : a < 2 ^ 62) (hb0 : 0 < b) (hb : b < 2 ^ 62) : lN a / lN b = lN (a / b) := by
  apply Int64.toInt_inj.mp
  have h1 : (lN b).toInt = (b : Int) := pf_lI (by omega)
  have h2 : a / b ≤ a := Nat.div_le_self _ _
  rw [Int64.toInt_div, pf_lI (by omega), h1, pf_lI (by omega)]
  show ((a / b : Nat) : Int).bmod (2 ^ 64) = _
  generalize a / b = q at h2 ⊢
  exact Int.bmod_eq_of_le (by omega) (by omega)
theorem lN_lt' {a b : Nat} (ha : a < 2 ^ 62) (hb : b < 2 ^ 62) : (lN a < lN b) ↔ a < b := by
  rw [Int64.lt_iff_toInt_lt, pf_lI (by omega), pf_lI (by omega)]; omega
theorem lN_eq' {a b : Nat} (ha : a < 2 ^ 62) (hb : b < 2 ^ 62) : (lN a = lN b) ↔ a = b := by
  rw [← Int64.toInt_inj, pf_lI (by omega), pf_lI (by omega)]; omega
theorem nTF : ¬ true = false := by decide
/-- a WORTH that grows -/
def gro (v : Nat) : Nat → Nat
  | 0 => v
  | n + 1 => gro v n + gro v n / 10
theorem gro_gt {v : Nat} (h : v < 2 ^ 32) : (0 < lg_cmp (lN v) (2147483647 : Int64)) = (2147483647 < v) := by
  apply propext
  rw [lg_cmp_gt, show (2147483647 : Int64) = lN 2147483647 from rfl, lN_lt' (by omega) (by omega)]
/-- facts whose other way turns a COUNT, out of worlds below n -/
def isB (T N : Nat → Nat) (k n f : Nat) : Bool := anyB (fun w => lft T N w && won T k w && (lft T N (w ^^^ 2 ^ f) && !won T k (w ^^^ 2 ^ f))) n
theorem bs_or (p q : Nat → Bool) (n : Nat) : bs p n ||| bs q n = bs (fun i => p i || q i) n := by
  apply Nat.eq_of_testBit_eq; intro i
  rw [Nat.testBit_or, bs_bit, bs_bit, bs_bit]
  cases decide (i < n) <;> cases p i <;> cases q i <;> rfl
theorem xor_lt {w f : Nat} (hw : w < 256) (hf : f < 8) : w ^^^ 2 ^ f < 256 := Nat.xor_lt_two_pow (n := 8) hw (Nat.pow_lt_pow_right (by omega) hf)
theorem isB_sym {T N : Nat → Nat} {k f : Nat} (hf : f < 8) : isB T N k 256 f = anyB (fun w => lft T N w && (lft T N (w ^^^ 2 ^ f) && (won T k w != won T k (w ^^^ 2 ^ f)))) 256 := by
  unfold isB
  apply Bool.eq_iff_iff.mpr
  rw [anyB_iff, anyB_iff]
  constructor
  · rintro ⟨w, hw, h⟩
    refine ⟨w, hw, ?_⟩
    revert h
    cases lft T N w <;> cases won T k w <;> cases lft T N (w ^^^ 2 ^ f) <;> cases won T k (w ^^^ 2 ^ f) <;> decide
  · rintro ⟨w, hw, h⟩
    cases h1 : won T k w
    · refine ⟨w ^^^ 2 ^ f, xor_lt hw hf, ?_⟩
      rw [Nat.xor_assoc, Nat.xor_self, Nat.xor_zero]
      rw [h1] at h ⊢
      revert h
      cases lft T N w <;> cases lft T N (w ^^^ 2 ^ f) <;> cases won T k (w ^^^ 2 ^ f) <;> decide
    · refine ⟨w, hw, ?_⟩
      rw [h1] at h ⊢
      revert h
      cases lft T N w <;> cases lft T N (w ^^^ 2 ^ f) <;> cases won T k (w ^^^ 2 ^ f) <;> decide
theorem pow_bit {f : Nat} (hf : f < 31) : (1 : Int32) <<< (nI f &&& 31) = nI (2 ^ f) := shl1 hf
end Q5
