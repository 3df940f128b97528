section Bt
variable {σ : Sg} {I I' J I1 I2 : Nat → Nat → Int32} {L L' L1 L2 : Nat → Nat → Int64}
/-- the least over some -/
def mnf (g : Nat → Nat) (p : Nat → Bool) (z : Nat) : Nat → Nat
  | 0 => z
  | n + 1 => if p n = true then min (mnf g p z n) (g n) else mnf g p z n
theorem mnfS (g : Nat → Nat) (p : Nat → Bool) (z n : Nat) : mnf g p z (n + 1) = if p n = true then min (mnf g p z n) (g n) else mnf g p z n := rfl
theorem mnf_congr {g g' : Nat → Nat} {p p' : Nat → Bool} {z : Nat} : ∀ {n}, (∀ f, f < n → p f = p' f ∧ (p f = true → g f = g' f)) → mnf g p z n = mnf g' p' z n
  | 0, _ => rfl
  | n + 1, h => by
    obtain ⟨h1, h2⟩ := h n (by omega)
    rw [mnfS, mnfS, mnf_congr (n := n) fun f hf => h f (by omega), ← h1]
    by_cases q : p n = true
    · rw [if_pos q, if_pos q, h2 q]
    · rw [if_neg q, if_neg q]
theorem mnf_min {g : Nat → Nat} {p : Nat → Bool} {a z : Nat} : ∀ n, mnf g p (min a z) n = min a (mnf g p z n)
  | 0 => rfl
  | n + 1 => by
    rw [mnfS, mnfS, mnf_min n]
    split <;> omega
theorem mnf_le {g : Nat → Nat} {p : Nat → Bool} {z f : Nat} : ∀ {n}, f < n → p f = true → mnf g p z n ≤ g f
  | 0, h, _ => absurd h (Nat.not_lt_zero _)
  | n + 1, h, hp => by
    rw [mnfS]
    by_cases e : f = n
    · subst e; rw [if_pos hp]; exact Nat.min_le_right _ _
    · have ih := mnf_le (g := g) (p := p) (z := z) (f := f) (n := n) (by omega) hp
      split
      · omega
      · exact ih
theorem mnf_z {g : Nat → Nat} {p : Nat → Bool} {z : Nat} : ∀ n, mnf g p z n ≤ z
  | 0 => Nat.le_refl _
  | n + 1 => by
    have := mnf_z (g := g) (p := p) (z := z) n
    rw [mnfS]
    split <;> omega
theorem mnf_pos {g : Nat → Nat} {p : Nat → Bool} {z : Nat} (hz : 0 < z) (hg : ∀ f, 0 < g f) : ∀ n, 0 < mnf g p z n
  | 0 => hz
  | n + 1 => by
    have := mnf_pos (g := g) (p := p) hz hg n
    have := hg n
    rw [mnfS]
    split <;> omega
theorem mnf_gap {g : Nat → Nat} {p : Nat → Bool} {z n : Nat} : ∀ {m}, n ≤ m → (∀ f, n ≤ f → f < m → p f = false) → mnf g p z m = mnf g p z n := by
  intro m hnm
  obtain ⟨d, rfl⟩ := Nat.le.dest hnm
  induction d with
  | zero => intro _; rfl
  | succ d ih =>
    intro h
    rw [show n + (d + 1) = (n + d) + 1 from rfl, mnfS, h (n + d) (by omega) (by omega), if_neg (by decide)]
    exact ih (by omega) fun f h1 h2 => h f h1 (by omega)
def mix (T N : Nat → Nat) (k x : Nat) : Bool := decide (cn (lw T N k) (T 1) x ≠ 0) && decide (cn (lw T N k) (T 1) x ≠ cn (lft T N) (T 1) x)
def unk (N : Nat → Nat) (x f : Nat) : Bool := !(knF N).testBit f && decide (dg x f = 0)
/-- how many trials -/
def vt (T N : Nat → Nat) (k : Nat) : Nat → Nat → Nat
  | 0, _ => 0
  | m + 1, x => if mix T N k x = true then mnf (fun f => 1 + max (vt T N k m (x + 1 * 3 ^ f)) (vt T N k m (x + 2 * 3 ^ f))) (unk N x) 9 (T 1) else 0
theorem vt_st {T N : Nat → Nat} {k : Nat} : ∀ m m' x, x < 3 ^ T 1 → 3 ^ T 1 - x ≤ m → 3 ^ T 1 - x ≤ m' → vt T N k m x = vt T N k m' x
  | 0, m', x, h1, h2, h3 => by omega
  | m + 1, 0, x, h1, h2, h3 => by omega
  | m + 1, m' + 1, x, h1, h2, h3 => by
    show (if mix T N k x = true then mnf (fun f => 1 + max (vt T N k m (x + 1 * 3 ^ f)) (vt T N k m (x + 2 * 3 ^ f))) (unk N x) 9 (T 1) else 0) = (if mix T N k x = true then mnf (fun f => 1 + max (vt T N k m' (x + 1 * 3 ^ f)) (vt T N k m' (x + 2 * 3 ^ f))) (unk N x) 9 (T 1) else 0)
    split
    · refine mnf_congr fun f hf => ⟨rfl, fun hp => ?_⟩
      unfold unk at hp
      rw [Bool.and_eq_true] at hp
      have hd := of_decide_eq_true hp.2
      have p3 := p3_pos f
      have a1 := put_lt h1 hf hd (d := 1) (by omega)
      have a2 := put_lt h1 hf hd (d := 2) (by omega)
      rw [vt_st m m' (x + 1 * 3 ^ f) a1 (by omega) (by omega), vt_st m m' (x + 2 * 3 ^ f) a2 (by omega) (by omega)]
    · rfl
def btr (T N : Nat → Nat) (k x : Nat) : Nat := vt T N k (3 ^ T 1 - x) x
def gt (T N : Nat → Nat) (k x f : Nat) : Nat := 1 + max (btr T N k (x + 1 * 3 ^ f)) (btr T N k (x + 2 * 3 ^ f))
theorem btr_eq {T N : Nat → Nat} {k x : Nat} (hx : x < 3 ^ T 1) : btr T N k x = if mix T N k x = true then mnf (gt T N k x) (unk N x) 9 (T 1) else 0 := by
  unfold btr
  obtain ⟨m, hm⟩ : ∃ m, 3 ^ T 1 - x = m + 1 := ⟨3 ^ T 1 - x - 1, by omega⟩
  rw [hm]
  show (if mix T N k x = true then mnf (fun f => 1 + max (vt T N k m (x + 1 * 3 ^ f)) (vt T N k m (x + 2 * 3 ^ f))) (unk N x) 9 (T 1) else 0) = _
  split
  · refine mnf_congr fun f hf => ⟨rfl, fun hp => ?_⟩
    unfold unk at hp
    rw [Bool.and_eq_true] at hp
    have hd := of_decide_eq_true hp.2
    have p3 := p3_pos f
    have a1 := put_lt hx hf hd (d := 1) (by omega)
    have a2 := put_lt hx hf hd (d := 2) (by omega)
    unfold gt btr
    rw [vt_st m (3 ^ T 1 - (x + 1 * 3 ^ f)) (x + 1 * 3 ^ f) a1 (by omega) (by omega), vt_st m (3 ^ T 1 - (x + 2 * 3 ^ f)) (x + 2 * 3 ^ f) a2 (by omega) (by omega)]
  · rfl
theorem btr_le {T N : Nat → Nat} {k x : Nat} (hx : x < 3 ^ T 1) : btr T N k x ≤ 9 := by
  rw [btr_eq hx]
  split
  · exact mnf_z _
  · omega
theorem lw_le {T N : Nat → Nat} {k x : Nat} : cn (lw T N k) (T 1) x ≤ cn (lft T N) (T 1) x := cntB_leq fun w _ hw => by
  unfold lw at hw
  rw [Bool.and_eq_true, Bool.and_eq_true] at hw
  rw [hw.1.1, hw.2]; rfl
theorem btr_none {T N : Nat → Nat} {k x : Nat} (hx : x < 3 ^ T 1) (h : cn (lft T N) (T 1) x = 0) : btr T N k x = 0 := by
  have := lw_le (T := T) (N := N) (k := k) (x := x)
  rw [btr_eq hx, show mix T N k x = false by unfold mix; rw [show cn (lw T N k) (T 1) x = 0 by omega]; rfl, if_neg (by decide)]
end Bt
