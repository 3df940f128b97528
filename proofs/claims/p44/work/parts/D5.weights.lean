/-! WEIGHTS -/
section D5
variable {T N : Nat → Nat} {k f how so x : Nat}
theorem sm_two {g : Nat → Nat} {p q r : Nat → Bool} : ∀ {n}, (∀ w, w < n → p w = (q w || r w) ∧ (q w && r w) = false) → sm g p n = sm g q n + sm g r n
  | 0, _ => rfl
  | n + 1, h => by
    have ih := sm_two (g := g) (p := p) (q := q) (r := r) (n := n) fun w hw => h w (by omega)
    obtain ⟨h1, h2⟩ := h n (by omega)
    rw [smS, smS, smS, ih, h1]
    revert h2
    cases q n <;> cases r n <;> simp <;> omega
theorem sm_same {g g' : Nat → Nat} {p q : Nat → Bool} : ∀ {n}, (∀ w, w < n → p w = q w ∧ (p w = true → g w = g' w)) → sm g p n = sm g' q n
  | 0, _ => rfl
  | n + 1, h => by
    have ih := sm_same (g := g) (g' := g') (p := p) (q := q) (n := n) fun w hw => h w (by omega)
    obtain ⟨h1, h2⟩ := h n (by omega)
    rw [smS, smS, ih, ← h1]
    by_cases e : p n = true
    · rw [if_pos e, if_pos e, h2 e]
    · rw [if_neg e, if_neg e]
theorem sm_none {g : Nat → Nat} {p : Nat → Bool} : ∀ {n}, (∀ w, w < n → p w = false) → sm g p n = 0
  | 0, _ => rfl
  | n + 1, h => by rw [smS, sm_none (n := n) fun w hw => h w (by omega), h n (by omega), if_neg (by decide)]
theorem sm_mono {g : Nat → Nat} {p q : Nat → Bool} : ∀ {n}, (∀ w, w < n → p w = true → q w = true) → sm g p n ≤ sm g q n
  | 0, _ => Nat.le_refl _
  | n + 1, h => by
    have ih := sm_mono (g := g) (p := p) (q := q) (n := n) fun w hw => h w (by omega)
    rw [smS, smS]
    by_cases e : p n = true
    · rw [if_pos e, if_pos (h n (by omega) e)]; omega
    · rw [if_neg e]; omega
theorem sm_plus (g : Nat → Nat) (p : Nat → Bool) (m : Nat) : ∀ n, sm g p (m + n) = sm g p m + sm (fun w => g (m + w)) (fun w => p (m + w)) n
  | 0 => rfl
  | n + 1 => by
    rw [show m + (n + 1) = (m + n) + 1 from rfl, smS, smS, sm_plus g p m n]; omega
theorem sm_mul (g : Nat → Nat) (p : Nat → Bool) (c : Nat) : ∀ n, sm (fun w => g w * c) p n = sm g p n * c
  | 0 => by show 0 = 0 * c; omega
  | n + 1 => by
    rw [smS, smS, sm_mul g p c n, Nat.add_mul]
    split <;> simp
theorem wt_bits {T : Nat → Nat} {w v : Nat} : ∀ {n}, (∀ i, i < n → w.testBit i = v.testBit i) → wt T w n = wt T v n
  | 0, _ => rfl
  | n + 1, h => by
    show wt T w n * _ = wt T v n * _
    rw [wt_bits (n := n) fun i hi => h i (by omega), h n (by omega)]
/-- all ways of some facts weigh ten each -/
theorem wt_sum {T : Nat → Nat} : ∀ n, (∀ f, f < n → T (8 + f) ≤ 10) → sm (fun w => wt T w n) (fun _ => true) (2 ^ n) = 10 ^ n
  | 0, _ => rfl
  | n + 1, h => by
    have ih := wt_sum (T := T) n fun f hf => h f (by omega)
    have hq := h n (by omega)
    have e1 : sm (fun w => wt T w (n + 1)) (fun _ => true) (2 ^ n) = 10 ^ n * (10 - T (8 + n)) := by
      rw [← ih, ← sm_mul]
      refine sm_same fun w hw => ⟨rfl, fun _ => ?_⟩
      show wt T w n * (if w.testBit n = true then T (8 + n) else 10 - T (8 + n)) = _
      rw [Nat.testBit_lt_two_pow hw, if_neg (by decide)]
    have e2 : sm (fun w => wt T (2 ^ n + w) (n + 1)) (fun _ => true) (2 ^ n) = 10 ^ n * T (8 + n) := by
      rw [← ih, ← sm_mul]
      refine sm_same fun w hw => ⟨rfl, fun _ => ?_⟩
      show wt T (2 ^ n + w) n * (if (2 ^ n + w).testBit n = true then T (8 + n) else 10 - T (8 + n)) = _
      rw [Nat.testBit_two_pow_add_eq, Nat.testBit_lt_two_pow hw, wt_bits fun i hi => Nat.testBit_two_pow_add_gt hi w]
      rfl
    rw [show 2 ^ (n + 1) = 2 ^ n + 2 ^ n by rw [Nat.pow_succ]; omega, sm_plus, e1]
    have e2' : sm (fun w => (fun w => wt T w (n + 1)) (2 ^ n + w)) (fun w => (fun _ => true) (2 ^ n + w)) (2 ^ n) = 10 ^ n * T (8 + n) := e2
    rw [e2', ← Nat.mul_add, show 10 - T (8 + n) + T (8 + n) = 10 by omega, Nat.pow_succ]
theorem aW_le (hW : WT T) (p : Nat → Bool) (hp : ∀ w, p w = true → w < 2 ^ T 1) : sm (wg T) p 256 ≤ 100000000 := by
  have w1 := hW.1.2.1
  have e256 : 2 ^ T 1 ≤ 256 := ev_lt w1
  obtain ⟨d, hd⟩ : ∃ d, 256 = 2 ^ T 1 + d := ⟨256 - 2 ^ T 1, by omega⟩
  rw [hd, sm_plus, sm_none (g := fun w => wg T (2 ^ T 1 + w)) (p := fun w => p (2 ^ T 1 + w)) (n := d) fun w _ => by
    cases q : p (2 ^ T 1 + w)
    · rfl
    · have := hp _ q; omega]
  have h1 : sm (wg T) p (2 ^ T 1) ≤ sm (wg T) (fun _ => true) (2 ^ T 1) := sm_mono fun _ _ _ => rfl
  have h2 : sm (wg T) (fun _ => true) (2 ^ T 1) = 10 ^ T 1 := wt_sum (T 1) fun f hf => by have := (hW.2.1 f hf).2; omega
  have h3 : 10 ^ T 1 ≤ 10 ^ 8 := Nat.pow_le_pow_right (by omega) w1
  omega
theorem aW_b (hW : WT T) : aW T N ≤ 100000000 := aW_le hW _ fun _ h => lft_hi8 h
theorem pW_le : pW T N k ≤ aW T N := sm_mono fun w _ h => by
  have h : (lft T N w && won T (it N k 0) w) = true := h
  rw [Bool.and_eq_true] at h; exact h.1
theorem pW_0 (hW : WT T) (h : ∀ w, w < 256 → lft T N w = true → won T (it N k 0) w = false) : pW T N k = 0 := sm_none fun w hw => by
  show (lft T N w && won T (it N k 0) w) = false
  cases q : lft T N w
  · rfl
  · rw [h w hw q]; rfl
theorem pW_all (h : ∀ w, w < 256 → lft T N w = true → won T (it N k 0) w = true) : pW T N k = aW T N := sm_same fun w hw => ⟨by
  show (lft T N w && won T (it N k 0) w) = lft T N w
  cases q : lft T N w
  · rfl
  · rw [h w hw q]; rfl, fun _ => rfl⟩
theorem pW_pos (hW : WT T) (h : ∃ w, w < 256 ∧ lft T N w = true ∧ won T (it N k 0) w = true) : 0 < pW T N k := by
  obtain ⟨w, hw, h1, h2⟩ := h
  exact sm_pos (p := fun w => lft T N w && won T (it N k 0) w) hw (by show (lft T N w && won T (it N k 0) w) = true; rw [h1, h2]; rfl) (by have := (wg_b hW w).1; omega)
/-- the weights of the lost ones -/
theorem pW_lost : sm (wg T) (fun w => lft T N w && !won T (it N k 0) w) 256 + pW T N k = aW T N := by
  unfold pW aW
  rw [Nat.add_comm]
  exact (sm_two fun w _ => by cases lft T N w <;> cases won T (it N k 0) w <;> exact ⟨rfl, rfl⟩).symm
theorem pW_lt (hW : WT T) (h : ∃ w, w < 256 ∧ lft T N w = true ∧ won T (it N k 0) w = false) : pW T N k < aW T N := by
  obtain ⟨w, hw, h1, h2⟩ := h
  have := sm_pos (g := wg T) (p := fun w => lft T N w && !won T (it N k 0) w) hw (by show (lft T N w && !won T (it N k 0) w) = true; rw [h1, h2]; rfl) (by have := (wg_b hW w).1; omega)
  have := pW_lost (T := T) (N := N) (k := k)
  omega
/-- chances in lowest terms -/
def ch0 (T N : Nat → Nat) (k : Nat) : Nat := pW T N k / Nat.gcd (aW T N) (pW T N k)
def ch1 (T N : Nat → Nat) (k : Nat) : Nat := aW T N / Nat.gcd (aW T N) (pW T N k)
theorem ch_b (hW : WT T) (hN : WN T N) : ch0 T N k ≤ ch1 T N k ∧ ch1 T N k ≤ 100000000 ∧ 0 < ch1 T N k ∧ pW T N k = ch0 T N k * Nat.gcd (aW T N) (pW T N k) ∧ aW T N = ch1 T N k * Nat.gcd (aW T N) (pW T N k) ∧ 0 < Nat.gcd (aW T N) (pW T N k) := by
  have a0 : 0 < aW T N := all_pos hW hN
  have ab := aW_b (N := N) hW
  have g0 : 0 < Nat.gcd (aW T N) (pW T N k) := Nat.gcd_pos_of_pos_left _ a0
  have d1 := Nat.gcd_dvd_left (aW T N) (pW T N k)
  have d2 := Nat.gcd_dvd_right (aW T N) (pW T N k)
  refine ⟨Nat.div_le_div_right pW_le, Nat.le_trans (Nat.div_le_self _ _) ab, Nat.div_pos (Nat.le_of_dvd a0 d1) g0, (Nat.div_mul_cancel d2).symm, (Nat.div_mul_cancel d1).symm, g0⟩
theorem ch_eq (hW : WT T) (hN : WN T N) : ch0 T N k = ch1 T N k ↔ pW T N k = aW T N := by
  obtain ⟨_, _, _, e1, e2, g⟩ := ch_b (k := k) hW hN
  constructor
  · intro h; rw [e1, h, ← e2]
  · intro h; unfold ch0 ch1; rw [h]
theorem ch_0 (hW : WT T) (hN : WN T N) : ch0 T N k = 0 ↔ pW T N k = 0 := by
  obtain ⟨_, _, _, e1, e2, g⟩ := ch_b (k := k) hW hN
  constructor
  · intro h; rw [e1, h, Nat.zero_mul]
  · intro h; unfold ch0; rw [h, Nat.zero_div]
end D5
