/-! MATHEMATICS, the base: pure heaps by rows, loops by measures, small numbers, sets as bits -/
def rowUp {α : Type} (f : Nat → Nat → α) (a : Nat) (r : Nat → α) : Nat → Nat → α := fun b => if b = a then r else f b
def setI (h : Hp) (a : Nat) (r : Nat → Int32) : Hp := (h.1, rowUp h.2.1 a r, h.2.2)
def setL (h : Hp) (a : Nat) (r : Nat → Int64) : Hp := (h.1, h.2.1, rowUp h.2.2.1 a r, h.2.2.2)
def setR (h : Hp) (a : Nat) (r : Nat → Nat) : Hp := (h.1, h.2.1, h.2.2.1, rowUp h.2.2.2.1 a r, h.2.2.2.2)
theorem rowUp_same {α : Type} (f : Nat → Nat → α) (a : Nat) (r : Nat → α) : rowUp f a r a = r := if_pos rfl
theorem rowUp_ne {α : Type} (f : Nat → Nat → α) {a b : Nat} (r : Nat → α) (h : b ≠ a) : rowUp f a r b = f b := if_neg h
theorem up2_row {α : Type} (f : Nat → Nat → α) (a k : Nat) (x : α) : up2 f a k x = rowUp f a (fun j => if j = k then x else f a j) := by
  funext b j
  unfold up2 rowUp
  by_cases hb : b = a
  · subst hb; by_cases hj : j = k <;> simp [hj]
  · simp [hb]
def updA {α : Type} (f : Nat → α) (k : Nat) (x : α) : Nat → α := fun j => if j = k then x else f j
theorem updA_same {α : Type} (f : Nat → α) (k : Nat) (x : α) : updA f k x k = x := if_pos rfl
theorem updA_ne {α : Type} (f : Nat → α) {k j : Nat} (x : α) (h : j ≠ k) : updA f k x j = f j := if_neg h
theorem updA_at {α : Type} (f : Nat → α) (k j : Nat) (x : α) : updA f k x j = if j = k then x else f j := rfl
theorem upI_set (h : Hp) (a k : Nat) (x : Int32) : upI h a k x = setI h a (updA (hpI h a) k x) := by
  unfold upI setI; rw [up2_row]; rfl
theorem upL_set (h : Hp) (a k : Nat) (x : Int64) : upL h a k x = setL h a (updA (hpL h a) k x) := by
  unfold upL setL; rw [up2_row]; rfl
theorem upR_set (h : Hp) (a k : Nat) (x : Nat) : upR h a k x = setR h a (updA (hpR h a) k x) := by
  unfold upR setR; rw [up2_row]; rfl
theorem setI_S (h : Hp) (a : Nat) (r : Nat → Int32) (b : Nat) : hpS (setI h a r) b = hpS h b := rfl
theorem setI_R (h : Hp) (a : Nat) (r : Nat → Int32) (b k : Nat) : hpR (setI h a r) b k = hpR h b k := rfl
theorem setI_L (h : Hp) (a : Nat) (r : Nat → Int32) (b : Nat) : hpL (setI h a r) b = hpL h b := rfl
theorem setI_I (h : Hp) (a : Nat) (r : Nat → Int32) (b : Nat) : hpI (setI h a r) b = if b = a then r else hpI h b := rfl
theorem setI_N (h : Hp) (a : Nat) (r : Nat → Int32) : hpN (setI h a r) = hpN h := rfl
theorem setI_M (h : Hp) (a : Nat) (r : Nat → Int32) : hpM (setI h a r) = hpM h := rfl
theorem setL_S (h : Hp) (a : Nat) (r : Nat → Int64) (b : Nat) : hpS (setL h a r) b = hpS h b := rfl
theorem setL_R (h : Hp) (a : Nat) (r : Nat → Int64) (b k : Nat) : hpR (setL h a r) b k = hpR h b k := rfl
theorem setL_I (h : Hp) (a : Nat) (r : Nat → Int64) (b : Nat) : hpI (setL h a r) b = hpI h b := rfl
theorem setL_L (h : Hp) (a : Nat) (r : Nat → Int64) (b : Nat) : hpL (setL h a r) b = if b = a then r else hpL h b := rfl
theorem setL_N (h : Hp) (a : Nat) (r : Nat → Int64) : hpN (setL h a r) = hpN h := rfl
theorem setL_M (h : Hp) (a : Nat) (r : Nat → Int64) : hpM (setL h a r) = hpM h := rfl
theorem setI_two (h : Hp) (a : Nat) (r s : Nat → Int32) : setI (setI h a r) a s = setI h a s := by
  unfold setI
  have : rowUp (rowUp h.2.1 a r) a s = rowUp h.2.1 a s := by
    funext b; unfold rowUp; by_cases hb : b = a <;> simp [hb]
  exact congrArg (fun z => (h.1, z, h.2.2)) this
theorem setL_two (h : Hp) (a : Nat) (r s : Nat → Int64) : setL (setL h a r) a s = setL h a s := by
  unfold setL
  have : rowUp (rowUp h.2.2.1 a r) a s = rowUp h.2.2.1 a s := by
    funext b; unfold rowUp; by_cases hb : b = a <;> simp [hb]
  exact congrArg (fun z => (h.1, h.2.1, z, h.2.2.2)) this
theorem setI_id (h : Hp) (a : Nat) : setI h a (hpI h a) = h := by
  unfold setI
  have : rowUp h.2.1 a (hpI h a) = h.2.1 := by
    funext b; unfold rowUp; by_cases hb : b = a
    · subst hb; simp; rfl
    · simp [hb]
  rw [this]
theorem setL_id (h : Hp) (a : Nat) : setL h a (hpL h a) = h := by
  unfold setL
  have : rowUp h.2.2.1 a (hpL h a) = h.2.2.1 := by
    funext b; unfold rowUp; by_cases hb : b = a
    · subst hb; simp; rfl
    · simp [hb]
  rw [this]
/-! loops -/
theorem lp_inl {S ρ : Type} {f : S → Option (S ⊕ ρ)} {s t : S} (h : f s = some (.inl t)) : lp f s = lp f t := by rw [lp_eq, h]
theorem lp_inr {S ρ : Type} {f : S → Option (S ⊕ ρ)} {s : S} {r : ρ} (h : f s = some (.inr r)) : lp f s = some r := by rw [lp_eq, h]
theorem lp_ind {S ρ : Type} {f : S → Option (S ⊕ ρ)} (I : S → Prop) (μ : S → Nat) (P : Option ρ → Prop)
    (hs : ∀ s, I s → (∃ t, f s = some (.inl t) ∧ I t ∧ μ t < μ s) ∨ (∃ r, f s = some (.inr r) ∧ P (some r))) (s : S) (h : I s) : P (lp f s) := by
  have key : ∀ n s, μ s < n → I s → P (lp f s) := by
    intro n
    induction n with
    | zero => intro s hm; omega
    | succ n ih =>
      intro s hm hI
      rcases hs s hI with ⟨t, h1, h2, h3⟩ | ⟨r, h1, h2⟩
      · rw [lp_inl h1]; exact ih t (by omega) h2
      · rw [lp_inr h1]; exact h2
  exact key _ s (Nat.lt_succ_self _) h
/-- counting up: at i with what the invariant says of the rest of the state -/
theorem lp_up {S ρ : Type} {f : S → Option (S ⊕ ρ)} (n : Nat) (I : Nat → S → Prop) (P : Option ρ → Prop)
    (hs : ∀ i s, i < n → I i s → (∃ t, f s = some (.inl t) ∧ I (i + 1) t) ∨ (∃ r, f s = some (.inr r) ∧ P (some r)))
    (he : ∀ s, I n s → ∃ r, f s = some (.inr r) ∧ P (some r)) {i : Nat} {s : S} (hi : i ≤ n) (h : I i s) : P (lp f s) := by
  have key : ∀ k i s, i + k = n → I i s → P (lp f s) := by
    intro k
    induction k with
    | zero =>
      intro i s hk hI
      have : i = n := by omega
      subst this
      obtain ⟨r, h1, h2⟩ := he s hI
      rw [lp_inr h1]; exact h2
    | succ k ih =>
      intro i s hk hI
      rcases hs i s (by omega) hI with ⟨t, h1, h2⟩ | ⟨r, h1, h2⟩
      · rw [lp_inl h1]; exact ih (i + 1) t (by omega) h2
      · rw [lp_inr h1]; exact h2
  exact key (n - i) i s (by omega) h
/-! small numbers -/
def bI (b : Bool) : Int32 := if b then 1 else 0
theorem bI_t : bI true = 1 := rfl
theorem bI_f : bI false = 0 := rfl
theorem bI_0 {b : Bool} : bI b = 0 ↔ b = false := by cases b <;> simp [bI]
theorem bI_1 {b : Bool} : bI b = 1 ↔ b = true := by cases b <;> simp [bI]
theorem bI_01 (b : Bool) : bI b = 0 ∨ bI b = 1 := by cases b <;> simp [bI]
theorem nI_lt' {a b : Nat} (ha : a < 2 ^ 31) (hb : b < 2 ^ 31) : (nI a < nI b) = (a < b) := propext (nI_ltI ha hb)
theorem nI_le' {a b : Nat} (ha : a < 2 ^ 31) (hb : b < 2 ^ 31) : (nI a ≤ nI b) = (a ≤ b) := propext (nI_leI ha hb)
theorem nI_eq' {a b : Nat} (ha : a < 2 ^ 31) (hb : b < 2 ^ 31) : (nI a = nI b) = (a = b) := propext (nI_eq ha hb)
theorem nI_neg {a : Nat} (ha : a < 2 ^ 31) : (nI a < 0) = False := by
  have := nI_pos ha
  exact propext ⟨this, False.elim⟩
theorem c_lt {α : Type} {i n : Nat} {A B : α} (h : i < n) (hn : n < 2 ^ 31) : (if nI i < nI n then A else B) = A := if_pos (nI_lt h hn)
theorem c_nlt {α : Type} {i n : Nat} {A B : α} (h : n ≤ i) (hi : i < 2 ^ 31) : (if nI i < nI n then A else B) = B := if_neg (nI_nlt h hi)
theorem c_ltd {α : Type} {i n : Nat} {A B : α} (hi : i < 2 ^ 31) (hn : n < 2 ^ 31) : (if nI i < nI n then A else B) = (if i < n then A else B) := by
  by_cases h : i < n
  · rw [if_pos h, c_lt h hn]
  · rw [if_neg h, c_nlt (Nat.le_of_not_lt h) hi]
theorem c_eqd {α : Type} {i n : Nat} {A B : α} (hi : i < 2 ^ 31) (hn : n < 2 ^ 31) : (if nI i = nI n then A else B) = (if i = n then A else B) := by
  by_cases h : i = n
  · rw [if_pos h, if_pos (by rw [h])]
  · rw [if_neg h, if_neg (fun e => h ((nI_eq hi hn).mp e))]
theorem c_b {α : Type} {b : Bool} {A B : α} : (if bI b = 0 then A else B) = (if b = true then B else A) := by cases b <;> rfl
theorem c_neg {α : Type} {i : Nat} {A B : α} (hi : i < 2 ^ 31) : (if nI i < 0 then A else B) = B := if_neg (nI_pos hi)
theorem c_0 {α : Type} {i : Nat} {A B : α} (hi : i < 2 ^ 31) : (if nI i = 0 then A else B) = (if i = 0 then A else B) := c_eqd (n := 0) hi (by omega)
theorem ixN_nI {i : Nat} (h : i < 2 ^ 31) : ixN (nI i) = i := nI_clamp h
theorem inB_nI {i n : Nat} (h : i < 2 ^ 31) : inB (nI i) n = decide (i < n) := by
  unfold inB
  rw [nI_toInt h]
  by_cases hi : i < n <;> simp [hi] <;> omega
theorem inB_neg {i : Int32} {n : Nat} (h : i < 0) : inB i n = false := by
  unfold inB
  have h2 : i.toInt < 0 := by simpa using Int32.lt_iff_toInt_lt.mp h
  simp; omega
theorem nI_lit (n : Nat) : nI n = Int32.ofNat n := rfl
/-- an index, whatever it is: below 0, or a number -/
theorem ix_cases (x : Int32) : x < 0 ∨ ∃ j : Nat, j < 2 ^ 31 ∧ x = nI j := by
  by_cases h : x < 0
  · exact Or.inl h
  · exact Or.inr (nI_of h)
/-! reads and writes, where the shapes are known -/
theorem gI_ok {c k a : Nat} {h : Hp} (hs : (hpS h a).1 = c + 1) : gI c k a h = some (hpI h a k) := if_pos hs
theorem gL_ok {c k a : Nat} {h : Hp} (hs : (hpS h a).1 = c + 1) : gL c k a h = some (hpL h a k) := if_pos hs
theorem gR_ok {c k a : Nat} {h : Hp} (hs : (hpS h a).1 = c + 1) : gR c k a h = some (hpR h a k) := if_pos hs
theorem sI_ok {c k a : Nat} {x : Int32} {h : Hp} (hs : (hpS h a).1 = c + 1) : sI c k a x h = some (setI h a (updA (hpI h a) k x)) := by rw [sI, if_pos hs, upI_set]
theorem sL_ok {c k a : Nat} {x : Int64} {h : Hp} (hs : (hpS h a).1 = c + 1) : sL c k a x h = some (setL h a (updA (hpL h a) k x)) := by rw [sL, if_pos hs, upL_set]
theorem sZ_ok {c k a : Nat} {x : Int32} {h : Hp} (hs : (hpS h a).1 = c + 1) (hx : x = 0 ∨ x = 1) : sZ c k a x h = some (setI h a (updA (hpI h a) k x)) := by rw [sZ, if_pos ⟨hs, hx⟩, upI_set]
theorem aLen_ok {a k n : Nat} {h : Hp} (hs : hpS h a = (k, n)) (hk : aKd k = true) : aLen a h = some (nI n) := by
  unfold aLen; rw [hs]; exact if_pos hk
theorem ldI_ok {a n i : Nat} {h : Hp} (hs : hpS h a = (50, n)) (hi : i < n) (h31 : n < 2 ^ 31) : ldI a (nI i) h = some (hpI h a i) := by
  unfold ldI; rw [hs, inB_nI (by omega), ixN_nI (by omega), if_pos ⟨Or.inl rfl, by simpa using hi⟩]
theorem ldI_ro {a n i : Nat} {h : Hp} (hs : hpS h a = (80, n)) (hi : i < n) (h31 : n < 2 ^ 31) : ldI a (nI i) h = some (hpI h a i) := by
  unfold ldI; rw [hs, inB_nI (by omega), ixN_nI (by omega), if_pos ⟨Or.inr rfl, by simpa using hi⟩]
theorem ldL_ok {a n i : Nat} {h : Hp} (hs : hpS h a = (51, n)) (hi : i < n) (h31 : n < 2 ^ 31) : ldL a (nI i) h = some (hpL h a i) := by
  unfold ldL; rw [hs, inB_nI (by omega), ixN_nI (by omega), if_pos ⟨Or.inl rfl, by simpa using hi⟩]
theorem ldL_ro {a n i : Nat} {h : Hp} (hs : hpS h a = (81, n)) (hi : i < n) (h31 : n < 2 ^ 31) : ldL a (nI i) h = some (hpL h a i) := by
  unfold ldL; rw [hs, inB_nI (by omega), ixN_nI (by omega), if_pos ⟨Or.inr rfl, by simpa using hi⟩]
theorem ldZ_ok {a n i : Nat} {h : Hp} (hs : hpS h a = (52, n)) (hi : i < n) (h31 : n < 2 ^ 31) : ldZ a (nI i) h = some (hpI h a i) := by
  unfold ldZ; rw [hs, inB_nI (by omega), ixN_nI (by omega), if_pos ⟨rfl, by simpa using hi⟩]
theorem ldR_ok {c a n i : Nat} {h : Hp} (hs : hpS h a = (60 + c, n)) (hi : i < n) (h31 : n < 2 ^ 31) : ldR c a (nI i) h = some (hpR h a i) := by
  unfold ldR; rw [hs, inB_nI (by omega), ixN_nI (by omega), if_pos ⟨rfl, by simpa using hi⟩]
theorem stI_ok {a n i : Nat} {x : Int32} {h : Hp} (hs : hpS h a = (50, n)) (hi : i < n) (h31 : n < 2 ^ 31) : stI a (nI i) x h = some (setI h a (updA (hpI h a) i x)) := by
  unfold stI; rw [hs, inB_nI (by omega), ixN_nI (by omega), if_pos ⟨rfl, by simpa using hi⟩, upI_set]
theorem stL_ok {a n i : Nat} {x : Int64} {h : Hp} (hs : hpS h a = (51, n)) (hi : i < n) (h31 : n < 2 ^ 31) : stL a (nI i) x h = some (setL h a (updA (hpL h a) i x)) := by
  unfold stL; rw [hs, inB_nI (by omega), ixN_nI (by omega), if_pos ⟨rfl, by simpa using hi⟩, upL_set]
theorem stZ_ok {a n i : Nat} {x : Int32} {h : Hp} (hs : hpS h a = (52, n)) (hi : i < n) (h31 : n < 2 ^ 31) (hx : x = 0 ∨ x = 1) : stZ a (nI i) x h = some (setI h a (updA (hpI h a) i x)) := by
  unfold stZ; rw [hs, inB_nI (by omega), ixN_nI (by omega), if_pos ⟨⟨rfl, by simpa using hi⟩, hx⟩, upI_set]
theorem b2_some {α β ρ : Type} (a : α) (b : β) (K : α → β → Option ρ) : b2 (some (a, b)) K = K a b := rfl
/-! sets of small numbers as bits -/
theorem bt_nI (a i : Nat) : bt (nI a) i = (decide (i < 32) && a.testBit i) := by
  show (BitVec.ofNat 32 a).getLsbD i = _
  rw [BitVec.getLsbD_ofNat]
theorem nx_or (a b : Nat) : nI a ||| nI b = nI (a ||| b) := by
  apply b_ext
  intro i hi
  rw [b_or, bt_nI, bt_nI, bt_nI, Nat.testBit_or]
  simp [hi]
theorem nx_shl1 : ∀ f, f < 31 → (1 : Int32) <<< (nI f &&& 31) = nI (2 ^ f) := by decide +kernel
theorem nx_shr {a f : Nat} (ha : a < 2 ^ 31) (hf : f < 32) : nI a >>> (nI f &&& 31) = nI (a >>> f) := by
  apply b_ext
  intro i hi
  rw [b_sshr f hf _ hi, bt_nI, bt_nI, bt_nI, Nat.testBit_shiftRight]
  by_cases h : f + i < 32
  · rw [if_pos h]; simp [h, hi]
  · rw [if_neg h]
    have h1 : a.testBit 31 = false := Nat.testBit_lt_two_pow ha
    have h2 : a.testBit (f + i) = false := Nat.testBit_lt_two_pow (Nat.lt_of_lt_of_le ha (Nat.pow_le_pow_right (by omega) (by omega)))
    simp [h1, h2]
theorem nx_not {a b : Nat} (ha : a < 2 ^ 32) : nI a &&& (nI b ^^^ (-1)) = nI (a ^^^ (a &&& b)) := by
  apply b_ext
  intro i hi
  rw [b_and, b_xor, b_m1 i hi, bt_nI, bt_nI, bt_nI, Nat.testBit_xor, Nat.testBit_and]
  simp only [hi, decide_true, Bool.true_and]
  cases a.testBit i <;> cases b.testBit i <;> rfl
theorem nx_a1 (a : Nat) : nI a &&& 1 = bI (a.testBit 0) := by
  rw [show (1 : Int32) = nI 1 from rfl, nx_and, Nat.and_one_is_mod]
  rw [Nat.testBit_zero]
  rcases Nat.mod_two_eq_zero_or_one a with h | h <;> rw [h] <;> rfl
theorem has_nI {s i : Nat} (hs : s < 2 ^ 31) (hi : i < 32) : mX11_has (nI s) (nI i) = some (bI (s.testBit i)) := by
  unfold mX11_has
  rw [nx_shr hs hi, nx_a1, Nat.testBit_shiftRight, Nat.add_zero]
  cases s.testBit i <;> rfl
