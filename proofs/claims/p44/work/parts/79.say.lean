section Say
variable {σ : Sg} {I I' J I1 I2 I3 Ja : Nat → Nat → Int32} {L L' L1 L2 : Nat → Nat → Int64} {T N N' M : Nat → Nat} {a a' : Nat} {P P' : Nat → Nat → Nat} {K : Nat → Bool} {Q : Nat → Nat → Nat}
/-- an act that leaves the facts as they are -/
theorem act_hi (h : BI σ I L T N a P K Q) (hN : ∀ i, i < 16 → N' i = N i) (hEX : EX T N') (jHC : HC Ja (min (a + 1) 16) (psh a P N)) (jf : ∀ x, (x < 285 ∨ x = 286 ∨ x = 287 ∨ 400 ≤ x) → Ja x = I x) (j5 : ∀ k, k ≠ 3 → k ≠ 4 → Ja 285 k = I 285 k)
    (c1 : CSt I1 (gsa σ) N') (if1 : ∀ x, (x < gsa σ ∨ gsa σ + 7 ≤ x) → I1 x = Ja x) {R : Nat → Int32} (hR : ∀ i, i < 83 → R i = nI (N' i))
    (k1 : HM I3 (min (a + 1) 16) (psh a P N)) (k2 : ∀ x, x ≠ 433 → x ≠ 439 → I3 x = I1 x) (k3 : ∀ k, k ≠ 8 → I3 433 k = I1 433 k) :
    MI I3 T N ∧ MI (rowUp I3 438 R) T N' ∧ BI σ (rowUp I3 438 R) L T N' (min (a + 1) 16) (psh a P N) K Q ∧ Fr0 I L (rowUp I3 438 R) L := by
  obtain ⟨h1, h2, h3, ⟨p1, p2, p3, p4, p5, p6, p7⟩, h5, h6⟩ := id h
  obtain ⟨hi, m1, r1⟩ := act_cls h hEX jf c1 if1 (fun _ _ => rfl)
  have m3 : MI I3 T N := m1.fw fun x hx => k2 x (by omega) (by omega)
  have lh : lft T N' = lft T N := lft_hi hN
  have rn : rN (rowUp I3 438 R) N' := fun i hi => by rw [rowUp_same]; exact hR i hi
  obtain ⟨b1, b2⟩ := act_done h hEX jHC jf j5 c1 if1 (fun _ _ => rfl) (I2 := rowUp I3 438 R) (L1 := L) (k1.fr ⟨by rw [rowUp_ne _ _ (by omega)], by rw [rowUp_ne _ _ (by omega)]⟩) rn (by rw [rowUp_ne _ _ (by omega), lh]; exact m3.2.2.2.2.2.2.2) (fun x a b c d => by rw [rowUp_ne _ _ b, k2 x a c]) (fun k hk' => by rw [rowUp_ne _ _ (by omega), k3 k hk']) (psh_EX p6 p2.1 h3)
  exact ⟨m3, b1.2.1, b1, b2⟩
theorem it_upd {N : Nat → Nat} {k j v k' j' : Nat} (hj : j < 8) (hj' : j' < 8) : it (updA N (19 + 8 * k + j) v) k' j' = if k' = k ∧ j' = j then v else it N k' j' := by
  unfold it
  rw [updA_at]
  by_cases e : k' = k ∧ j' = j
  · rw [if_pos e, if_pos (by omega)]
  · rw [if_neg e, if_neg (by omega)]
theorem bs_onN (p : Nat → Bool) {f n : Nat} (hf : f < n) : bs p n ||| 2 ^ f = bs (updA p f true) n := by
  apply Nat.eq_of_testBit_eq; intro j
  rw [bs_bit, updA_at, tb_or1, bs_bit]
  by_cases e : j = f
  · subst e; rw [decide_eq_true rfl, if_pos rfl, decide_eq_true hf, Bool.or_true]; rfl
  · rw [decide_eq_false e, if_neg e, Bool.or_false]
theorem pc_bs (p : Nat → Bool) {n : Nat} (hn : n ≤ 8) : pc (bs p n) = cntB p n := by
  unfold pc
  rw [cnt_gap hn fun f h1 _ => by rw [bs_bit, decide_eq_false (by omega), Bool.false_and]]
  exact cntB_congr fun f hf => by rw [bs_bit, decide_eq_true hf, Bool.true_and]
end Say
