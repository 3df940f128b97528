section Way
variable {σ : Sg} {I I' I1 I2 : Nat → Nat → Int32} {L L' L1 L2 : Nat → Nat → Int64}
/-! WAYS: numbers with a digit of three for each fact: 0 not told, 1 not so, 2 so -/
theorem p3_pos (f : Nat) : 0 < 3 ^ f := Nat.pow_pos (by omega)
theorem p3_le {f n : Nat} (h : f ≤ n) : 3 ^ f ≤ 3 ^ n := Nat.pow_le_pow_right (by omega) h
theorem p3_s (f : Nat) : 3 ^ (f + 1) = 3 ^ f * 3 := Nat.pow_succ 3 f
def dg (x f : Nat) : Nat := x / 3 ^ f % 3
theorem dg_lt (x f : Nat) : dg x f < 3 := Nat.mod_lt _ (by omega)
theorem dg_hi {x f n : Nat} (hx : x < 3 ^ n) (hf : n ≤ f) : dg x f = 0 := by
  unfold dg
  rw [Nat.div_eq_of_lt (Nat.lt_of_lt_of_le hx (p3_le hf))]
/-- a digit that is 0 is put -/
theorem dv_put {x f d : Nat} : (x + d * 3 ^ f) / 3 ^ f = x / 3 ^ f + d := Nat.add_mul_div_right _ _ (p3_pos f)
theorem dv_up {x f d : Nat} (h0 : dg x f = 0) (hd : d < 3) : (x + d * 3 ^ f) / 3 ^ (f + 1) = x / 3 ^ (f + 1) := by
  rw [p3_s, ← Nat.div_div_eq_div_mul, ← Nat.div_div_eq_div_mul, dv_put]
  unfold dg at h0; omega
theorem dg_put {x f d g : Nat} (h0 : dg x f = 0) (hd : d < 3) : dg (x + d * 3 ^ f) g = if g = f then d else dg x g := by
  by_cases e : g = f
  · subst e
    rw [if_pos rfl]
    unfold dg at *
    rw [dv_put]; omega
  · rw [if_neg e]
    unfold dg
    rcases Nat.lt_or_ge g f with q | q
    · obtain ⟨c, rfl⟩ : ∃ c, f = g + 1 + c := ⟨f - g - 1, by omega⟩
      have e1 : d * 3 ^ (g + 1 + c) = (d * 3 ^ c * 3) * 3 ^ g := by
        rw [Nat.pow_add, p3_s]; ac_rfl
      rw [e1, Nat.add_mul_div_right _ _ (p3_pos g), Nat.add_mul_mod_self_right]
    · obtain ⟨c, rfl⟩ : ∃ c, g = f + 1 + c := ⟨g - f - 1, by omega⟩
      rw [Nat.pow_add, ← Nat.div_div_eq_div_mul, ← Nat.div_div_eq_div_mul, dv_up h0 hd]
theorem put_lt {x f d n : Nat} (hx : x < 3 ^ n) (hf : f < n) (h0 : dg x f = 0) (hd : d < 3) : x + d * 3 ^ f < 3 ^ n := by
  obtain ⟨c, rfl⟩ : ∃ c, n = f + 1 + c := ⟨n - f - 1, by omega⟩
  have h1 : x / 3 ^ (f + 1) < 3 ^ c := by
    rw [Nat.div_lt_iff_lt_mul (p3_pos _), ← Nat.pow_add, Nat.add_comm c]; exact hx
  rw [← dv_up h0 hd, Nat.div_lt_iff_lt_mul (p3_pos _), ← Nat.pow_add, Nat.add_comm c] at h1
  exact h1
theorem p3_8 {n : Nat} (h : n ≤ 8) : 3 ^ n ≤ 6561 := p3_le (n := 8) h
/-- what the worlds must be like -/
def bNw (w f : Nat) : Nat := if w.testBit f = true then 2 else 1
def agw (n x w : Nat) : Bool := allB (fun f => decide (dg x f = 0) || decide (dg x f = bNw w f)) n
theorem agw_put {n x f d w : Nat} (hf : f < n) (h0 : dg x f = 0) (hd : d = 1 ∨ d = 2) : agw n (x + d * 3 ^ f) w = (agw n x w && decide (bNw w f = d)) := by
  have hd3 : d < 3 := by omega
  apply Bool.eq_iff_iff.mpr
  unfold agw
  rw [Bool.and_eq_true, allB_iff, allB_iff]
  constructor
  · intro h
    refine ⟨fun g hg => ?_, ?_⟩
    · have := h g hg
      rw [dg_put h0 hd3] at this
      by_cases e : g = f
      · subst e; rw [h0]; rfl
      · rw [if_neg e] at this; exact this
    · have := h f hf
      rw [dg_put h0 hd3, if_pos rfl, Bool.or_eq_true] at this
      rcases this with q | q
      · have := of_decide_eq_true q; omega
      · exact decide_eq_true (of_decide_eq_true q).symm
  · rintro ⟨h1, h2⟩ g hg
    rw [dg_put h0 hd3]
    by_cases e : g = f
    · subst e
      rw [if_pos rfl, decide_eq_true (of_decide_eq_true h2).symm, Bool.or_true]
    · rw [if_neg e]; exact h1 g hg
theorem bN_12 (w f : Nat) : bNw w f = 1 ∨ bNw w f = 2 := by unfold bNw; split <;> omega
/-- how many of the worlds with a property agree -/
def cn (P : Nat → Bool) (n x : Nat) : Nat := cntB (fun w => P w && agw n x w) 256
theorem cn_le (P : Nat → Bool) (n x : Nat) : cn P n x ≤ 256 := cntB_le _ _
theorem cntB_two {p q r : Nat → Bool} : ∀ {n}, (∀ w, w < n → p w = (q w || r w) ∧ (q w && r w) = false) → cntB p n = cntB q n + cntB r n
  | 0, _ => rfl
  | n + 1, h => by
    have ih := cntB_two (p := p) (q := q) (r := r) (n := n) fun w hw => h w (by omega)
    obtain ⟨h1, h2⟩ := h n (by omega)
    rw [cntS, cntS, cntS, ih, h1]
    revert h2
    cases q n <;> cases r n <;> simp <;> omega
theorem cn_split {P : Nat → Bool} {n x f : Nat} (hf : f < n) (h0 : dg x f = 0) : cn P n x = cn P n (x + 1 * 3 ^ f) + cn P n (x + 2 * 3 ^ f) := by
  refine cntB_two fun w _ => ?_
  rw [agw_put hf h0 (Or.inl rfl), agw_put hf h0 (Or.inr rfl)]
  rcases bN_12 w f with e | e <;> rw [e] <;> cases P w <;> cases agw n x w <;> decide
/-- a way that tells all -/
def wld (n x : Nat) : Nat := bs (fun f => decide (dg x f = 2)) n
theorem cntB_one {p : Nat → Bool} {v : Nat} : ∀ {n}, v < n → (∀ w, w < n → w ≠ v → p w = false) → cntB p n = if p v = true then 1 else 0
  | 0, h, _ => absurd h (Nat.not_lt_zero _)
  | n + 1, h, hz => by
    rw [cntS]
    by_cases e : v = n
    · subst e
      have : cntB p v = 0 := by
        have : ∀ m, m ≤ v → cntB p m = 0 := by
          intro m
          induction m with
          | zero => intro _; rfl
          | succ m ih => intro hm; rw [cntS, ih (by omega), hz m (by omega) (by omega), if_neg (by decide)]
        exact this v (Nat.le_refl _)
      rw [this, Nat.zero_add]
    · rw [cntB_one (n := n) (by omega) fun w hw => hz w (by omega), hz n (by omega) (Ne.symm e), if_neg (show ¬ false = true by decide), Nat.add_zero]
theorem wld_lt {n x : Nat} (hn : n ≤ 8) : wld n x < 256 := Nat.lt_of_lt_of_le (bs_lt _ _) (ev_lt hn)
theorem agw_all {n x w : Nat} (ht : ∀ f, f < n → dg x f ≠ 0) (hw : w < 2 ^ n) : (agw n x w = true) ↔ w = wld n x := by
  unfold agw
  rw [allB_iff]
  constructor
  · intro h
    apply Nat.eq_of_testBit_eq
    intro f
    unfold wld
    rw [bs_bit]
    by_cases hf : f < n
    · have h1 := h f hf
      rw [decide_eq_false (ht f hf), Bool.false_or] at h1
      have h1 := of_decide_eq_true h1
      rw [h1, decide_eq_true hf, Bool.true_and]
      unfold bNw
      cases w.testBit f <;> rfl
    · rw [decide_eq_false hf, Bool.false_and]
      exact Nat.testBit_lt_two_pow (Nat.lt_of_lt_of_le hw (Nat.pow_le_pow_right (by omega) (by omega)))
  · rintro rfl f hf
    have h3 := dg_lt x f
    have h0 := ht f hf
    unfold bNw wld
    rw [bs_bit, decide_eq_true hf, Bool.true_and]
    rcases (show dg x f = 1 ∨ dg x f = 2 by omega) with e | e <;> rw [e] <;> rfl
theorem cn_all {P : Nat → Bool} {n x : Nat} (hn : n ≤ 8) (ht : ∀ f, f < n → dg x f ≠ 0) (hP : ∀ w, P w = true → w < 2 ^ n) : cn P n x = if P (wld n x) = true then 1 else 0 := by
  unfold cn
  rw [cntB_one (v := wld n x) (wld_lt hn) fun w _ hne => ?_]
  · have : agw n x (wld n x) = true := (agw_all ht (bs_lt _ _)).mpr rfl
    rw [this, Bool.and_true]
  · cases e : P w
    · rfl
    · rw [Bool.true_and]
      cases e2 : agw n x w
      · rfl
      · exact absurd ((agw_all ht (hP w e)).mp e2) hne
end Way
