section Proofs
variable {σ : Sg} {I I' J I1 I2 : Nat → Nat → Int32} {L L' L1 L2 : Nat → Nat → Int64}
/-- a set without one -/
def rmv (s f : Nat) : Nat := s ^^^ (s &&& 2 ^ f)
theorem rmv_bit (s f i : Nat) : (rmv s f).testBit i = (s.testBit i && !decide (i = f)) := by
  unfold rmv
  rw [Nat.testBit_xor, Nat.testBit_and, Nat.testBit_two_pow]
  by_cases e : i = f
  · subst e; rw [decide_eq_true rfl]; cases s.testBit i <;> rfl
  · rw [decide_eq_false e, decide_eq_false (fun q => e q.symm)]; cases s.testBit i <;> rfl
theorem rmv_or {s f : Nat} (h : s.testBit f = true) : rmv s f ||| 2 ^ f = s := by
  apply Nat.eq_of_testBit_eq; intro i
  rw [tb_or1, rmv_bit]
  by_cases e : i = f
  · subst e; rw [decide_eq_true rfl, h]; rfl
  · rw [decide_eq_false e]; cases s.testBit i <;> rfl
theorem rmv_no {s f : Nat} (h : s.testBit f = false) : rmv s f = s := by
  apply Nat.eq_of_testBit_eq; intro i
  rw [rmv_bit]
  by_cases e : i = f
  · subst e; rw [h]; rfl
  · rw [decide_eq_false e]; cases s.testBit i <;> rfl
theorem rmv_sb {s f : Nat} : sb (rmv s f) s := fun i hi => by
  rw [rmv_bit, Bool.and_eq_true] at hi; exact hi.1
theorem rmv_sb2 {so fs f : Nat} (h : sb so fs) : sb (rmv so f) (rmv fs f) := fun i hi => by
  rw [rmv_bit, Bool.and_eq_true] at hi ⊢; exact ⟨h i hi.1, hi.2⟩
theorem rmv_f (s f : Nat) : (rmv s f).testBit f = false := by rw [rmv_bit, decide_eq_true rfl, Bool.not_true, Bool.and_false]
theorem rmv_lt {s f : Nat} (h : s < 256) : rmv s f < 256 := Nat.lt_of_le_of_lt (sb_le rmv_sb) h
/-- the node with one literal left out -/
theorem nd_rmv {fs so f : Nat} (hf : f < 8) (hs : sb so fs) (hb : fs.testBit f = true) : nd fs so = nd (rmv fs f) (rmv so f) + (if so.testBit f = true then 2 else 1) * 3 ^ f := by
  cases e : so.testBit f
  · rw [if_neg (by decide), Nat.one_mul, rmv_no e]
    have := nd_or1 (S := so) hf (rmv_f fs f)
    rw [rmv_or hb] at this
    exact this
  · rw [if_pos rfl]
    have := nd_or2 hf (rmv_f fs f) (rmv_sb2 hs)
    rw [rmv_or hb, rmv_or e] at this
    exact this
/-- proved by a way -/
def prv (T N : Nat → Nat) (k : Nat) (wn : Bool) (x : Nat) : Bool := if wn = true then decide (cn (lw T N k) (T 1) x = cn (lft T N) (T 1) x) else decide (cn (lw T N k) (T 1) x = 0)
def pf (T N : Nat → Nat) (k : Nat) (wn : Bool) (fs so : Nat) : Bool := lv T N (nd fs so) && prv T N k wn (nd fs so) && allB (fun f => !(fs.testBit f && prv T N k wn (nd (rmv fs f) (rmv so f)))) (T 1)
/-- pairs of sets in their order -/
def kf (c : Nat) : Nat := c / 256 % 256
def ks (c : Nat) : Nat := c % 256
def kv (F0 c : Nat) : Bool := decide (pc (kf c) = c / 65536) && (decide (kf c ^^^ (kf c &&& F0) = 0) && decide (ks c ^^^ (ks c &&& kf c) = 0))
def kq (T N : Nat → Nat) (k : Nat) (wn : Bool) (c : Nat) : Bool := kv (fre T N) c && pf T N k wn (kf c) (ks c)
theorem kf_at {m F S : Nat} (hF : F < 256) (hS : S < 256) : kf (m * 65536 + F * 256 + S) = F := by unfold kf; omega
theorem ks_at {m F S : Nat} (hF : F < 256) (hS : S < 256) : ks (m * 65536 + F * 256 + S) = S := by unfold ks; omega
theorem kv_iff {F0 c : Nat} : kv F0 c = true ↔ pc (kf c) = c / 65536 ∧ sb (kf c) F0 ∧ sb (ks c) (kf c) := by
  unfold kv
  rw [Bool.and_eq_true, Bool.and_eq_true, decide_eq_true_iff, decide_eq_true_iff, decide_eq_true_iff, sb_iff, sb_iff]
theorem kv_no {F0 c : Nat} (h : ¬ (pc (kf c) = c / 65536 ∧ sb (kf c) F0 ∧ sb (ks c) (kf c))) : kv F0 c = false := by
  rw [← Bool.not_eq_true]; exact fun q => h (kv_iff.mp q)
theorem cnt_gap {p : Nat → Bool} {n m : Nat} (h : n ≤ m) (hz : ∀ f, n ≤ f → f < m → p f = false) : cntB p m = cntB p n := by
  obtain ⟨e, rfl⟩ := Nat.le.dest h
  clear h
  induction e with
  | zero => rfl
  | succ e ih =>
    rw [show n + (e + 1) = (n + e) + 1 from rfl, cntS, hz (n + e) (by omega) (by omega), if_neg (by decide), Nat.add_zero]
    exact ih fun f h1 h2 => hz f h1 (by omega)
/-- no more than 6561 -/
theorem cnt_one {p : Nat → Bool} : ∀ {n}, (∀ i j, i < n → j < n → p i = true → p j = true → i = j) → cntB p n ≤ 1
  | 0, _ => by show 0 ≤ 1; omega
  | n + 1, h => by
    rw [cntS]
    by_cases e : p n = true
    · have z : cntB p n = 0 := by
        rw [cntB_0, ← Bool.not_eq_true, anyB_iff]
        rintro ⟨w, h1, h2⟩
        have := h w n (by omega) (by omega) h2 e
        omega
      rw [z, if_pos e]; omega
    · rw [if_neg e]
      exact cnt_one fun i j hi hj => h i j (by omega) (by omega)
theorem cnt_pig {g : Nat → Nat} {n : Nat} : ∀ {m : Nat} {p : Nat → Bool}, (∀ i, i < n → p i = true → g i < m) → (∀ i j, i < n → j < n → p i = true → p j = true → g i = g j → i = j) → cntB p n ≤ m
  | 0, p, h1, _ => by
    have : cntB p n = 0 := by
      rw [cntB_0, ← Bool.not_eq_true, anyB_iff]
      rintro ⟨w, a, b⟩
      have := h1 w a b
      omega
    omega
  | m + 1, p, h1, h2 => by
    have s := cntB_two (p := p) (q := fun i => p i && !decide (g i = m)) (r := fun i => p i && decide (g i = m)) (n := n) fun w _ => by cases p w <;> cases decide (g w = m) <;> exact ⟨rfl, rfl⟩
    have a := cnt_pig (g := g) (n := n) (m := m) (p := fun i => p i && !decide (g i = m)) (fun i hi hp => by
      rw [Bool.and_eq_true] at hp
      have q1 := h1 i hi hp.1
      have q2 : ¬ g i = m := by have := hp.2; simpa using this
      omega) (fun i j hi hj hp hq => by
      rw [Bool.and_eq_true] at hp hq
      exact h2 i j hi hj hp.1 hq.1)
    have b := cnt_one (p := fun i => p i && decide (g i = m)) (n := n) fun i j hi hj hp hq => by
      rw [Bool.and_eq_true, decide_eq_true_iff] at hp hq
      exact h2 i j hi hj hp.1 hq.1 (by rw [hp.2, hq.2])
    omega
theorem kf_lt (c : Nat) : kf c < 256 := by unfold kf; omega
theorem ks_lt (c : Nat) : ks c < 256 := by unfold ks; omega
theorem kv_cnt {F0 : Nat} (n : Nat) : cntB (kv F0) n ≤ 6561 := cnt_pig (g := fun c => nd (kf c) (ks c)) (fun i _ _ => nd_lt _ _) fun i j _ _ hp hq e => by
  have p := kv_iff.mp hp
  have q := kv_iff.mp hq
  obtain ⟨e1, e2⟩ := nd_inj (kf_lt i) (kf_lt j) p.2.2 q.2.2 e
  have a := p.1
  have b := q.1
  rw [e1] at a
  have c : i / 65536 = j / 65536 := by rw [← a, ← b]
  unfold kf at e1
  unfold ks at e2
  omega
theorem kq_cnt {T N : Nat → Nat} {k : Nat} {wn : Bool} (n : Nat) : cntB (kq T N k wn) n ≤ 6561 := Nat.le_trans (cntB_leq fun i _ h => by unfold kq at h; rw [Bool.and_eq_true] at h; exact h.1) (kv_cnt (F0 := fre T N) n)
end Proofs
