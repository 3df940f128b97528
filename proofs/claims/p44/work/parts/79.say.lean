section Say
variable {σ : Sg} {I I' J I1 I2 I3 Ja : Nat → Nat → Int32} {L L' L1 L2 : Nat → Nat → Int64} {T N N' M : Nat → Nat} {a a' : Nat} {P P' : Nat → Nat → Nat} {K : Nat → Bool} {Q : Nat → Nat → Nat}
theorem it_upd {N : Nat → Nat} {k j v k' j' : Nat} (hj : j < 8) (hj' : j' < 8) : it (updA N (19 + 8 * k + j) v) k' j' = if k' = k ∧ j' = j then v else it N k' j' := by
  unfold it
  rw [updA_at]
  by_cases e : k' = k ∧ j' = j
  · rw [if_pos e, if_pos (by omega)]
  · rw [if_neg e, if_neg (by omega)]
theorem bs_onN (p : Nat → Bool) {f n : Nat} (hf : f < n) : bs p n ||| 2 ^ f = bs (updA p f true) n := by
  apply Nat.eq_of_testBit_eq; intro j
  rw [bs_bit, updA_at, tb_or1, bs_bit]
  by_cases e : j = f
  · subst e; rw [decide_eq_true rfl, if_pos rfl, decide_eq_true hf, Bool.or_true]; rfl
  · rw [decide_eq_false e, if_neg e, Bool.or_false]
theorem pc_bs (p : Nat → Bool) {n : Nat} (hn : n ≤ 8) : pc (bs p n) = cntB p n := by
  unfold pc
  rw [cnt_gap hn fun f h1 _ => by rw [bs_bit, decide_eq_false (by omega), Bool.false_and]]
  exact cntB_congr fun f hf => by rw [bs_bit, decide_eq_true hf, Bool.true_and]
end Say
