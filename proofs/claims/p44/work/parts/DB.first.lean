section DB
variable {R : Nat → Nat → Bool} {T N : Nat → Nat} {a b : Nat}
theorem rea_tr {m : Nat} : ∀ n a c b, rea R n a c = true → rea R m c b = true → rea R (n + m) a b = true
  | 0, a, c, b, h, g => by
    have e : a = c := of_decide_eq_true h
    subst e
    rw [Nat.zero_add]; exact g
  | n + 1, a, c, b, h, g => by
    rcases rea_inv h with q | ⟨d, hd, h1, h2⟩
    · exact rea_mono (by omega) (rea_tr n a c b q g)
    · rw [show n + 1 + m = (n + m) + 1 by omega]
      exact rea_cons hd h1 (rea_tr n d c b h2 g)
/-- the first of a first is itself -/
theorem fz_idem {k : Nat} (hk' : k < 8) : fz R (fz R k) = fz R k := by
  obtain ⟨h1, h2, h3⟩ := fz_spec (R := R) hk'
  obtain ⟨g1, g2, g3⟩ := fz_spec (R := R) (k := fz R k) (by omega)
  rcases Nat.lt_or_ge (fz R (fz R k)) (fz R k) with q | q
  · have := rea_8 hk' (rea_tr 8 k _ _ h2 g2)
    rw [h3 _ q] at this; cases this
  · omega
def clsh (T N : Nat → Nat) (a b : Nat) : Bool := !anyB (fun w => agr T (it N a 4) (it N a 5) w && decide (w &&& it N b 4 = it N b 5)) 256
theorem clsh_sym : clsh T N a b = clsh T N b a := by
  unfold clsh
  refine congrArg (fun z => !z) (anyB_congr fun w _ => ?_)
  unfold agr
  cases poss T w <;> cases decide (w &&& it N a 4 = it N a 5) <;> cases decide (w &&& it N b 4 = it N b 5) <;> rfl
theorem clsh_self : clsh T N a a = !anyB (agr T (it N a 4) (it N a 5)) 256 := by
  unfold clsh
  refine congrArg (fun z => !z) (anyB_congr fun w _ => ?_)
  unfold agr
  cases poss T w <;> cases decide (w &&& it N a 4 = it N a 5) <;> rfl
theorem why_2 (h : fls T N a (it N a 4) (it N a 5) = 2) : anyB (agr T (it N a 4) (it N a 5)) 256 = false := by
  unfold fls at h
  by_cases q : it N a 6 = 1
  · rw [if_pos q] at h; exact absurd h (by decide)
  · rw [if_neg q] at h
    by_cases z : anyB (agr T (it N a 4) (it N a 5)) 256 = false
    · exact z
    · rw [if_neg z] at h
      exfalso
      repeat' (split at h)
      all_goals (revert h; decide)
theorem clsh_of2 (h : fls T N a (it N a 4) (it N a 5) = 2) (b : Nat) : clsh T N a b = true := by
  have z := why_2 h
  unfold clsh
  have : anyB (fun w => agr T (it N a 4) (it N a 5) w && decide (w &&& it N b 4 = it N b 5)) 256 = false := by
    refine Bool.eq_false_iff.mpr fun q => ?_
    obtain ⟨w, hw, h2⟩ := anyB_iff.mp q
    rw [Bool.and_eq_true] at h2
    rw [anyB_iff.mpr ⟨w, hw, h2.1⟩] at z; cases z
  rw [this]; rfl
theorem why_12 (h : clsh T N a a = true) : fls T N a (it N a 4) (it N a 5) = 1 ∨ fls T N a (it N a 4) (it N a 5) = 2 := by
  rw [clsh_self, Bool.not_eq_true'] at h
  unfold fls
  by_cases q : it N a 6 = 1
  · rw [if_pos q]; exact Or.inl rfl
  · rw [if_neg q, if_pos h]; exact Or.inr rfl
def impl (T N : Nat → Nat) (a b : Nat) : Bool := allB (fun w => !(lft T N w && won T (it N a 0) w) || won T (it N b 0) w) 256
theorem impl_self : impl T N a a = true := allB_iff.mpr fun w _ => by cases lft T N w <;> cases won T (it N a 0) w <;> rfl
theorem impl_le (h : impl T N a b = true) : pW T N a ≤ pW T N b := sm_mono fun w hw q => by
  have q : (lft T N w && won T (it N a 0) w) = true := q
  have := allB_iff.mp h w hw
  show (lft T N w && won T (it N b 0) w) = true
  rw [q] at this
  rw [Bool.and_eq_true] at q
  rw [q.1]
  simpa using this
theorem impl_none (h : ∀ w, w < 256 → lft T N w = true → won T (it N a 0) w = false) : impl T N a b = true := allB_iff.mpr fun w hw => by
  cases q : lft T N w
  · rfl
  · rw [h w hw q]; rfl
/-- one COUNT alone stands together where it can be won -/
theorem tg_one (ha : a < N 18) : anyB (tg T N (2 ^ a) (N 18)) 256 = anyB (fun w => lft T N w && won T (it N a 0) w) 256 := by
  refine anyB_congr fun w _ => ?_
  unfold tg
  have e : allB (fun c => !(2 ^ a).testBit c || won T (it N c 0) w) (N 18) = won T (it N a 0) w := by
    cases q : won T (it N a 0) w
    · refine Bool.eq_false_iff.mpr fun z => ?_
      have := allB_iff.mp z a ha
      rw [Nat.testBit_two_pow_self, q] at this; cases this
    · refine allB_iff.mpr fun c hc => ?_
      rw [Nat.testBit_two_pow]
      by_cases e : a = c
      · subst e; rw [q, Bool.or_true]
      · rw [decide_eq_false e]; rfl
  rw [e]
theorem how_zero (hN : WN T N) : how3 (lft T N) (won T (it N a 0)) = 0 ↔ anyB (fun w => lft T N w && won T (it N a 0) w) 256 = false := by
  constructor
  · intro h
    refine Bool.eq_false_iff.mpr fun z => ?_
    unfold how3 at h
    split at h
    · exact absurd h (by decide)
    · first
        | exact absurd h (by decide)
        | (rw [if_pos z] at h; exact absurd h (by decide))
  · intro h
    refine how_0 hN fun w hw hl => ?_
    cases q : won T (it N a 0) w
    · rfl
    · rw [anyB_iff.mpr ⟨w, hw, by rw [hl, q]; rfl⟩] at h; cases h
end DB
