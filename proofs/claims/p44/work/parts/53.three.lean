section Three
/-! NUMBERS OF BASE 3, SETS OF BITS -/
def tv (d : Nat → Nat) : Nat → Nat
  | 0 => 0
  | n + 1 => tv d n + d n * 3 ^ n
theorem tvS (d : Nat → Nat) (n : Nat) : tv d (n + 1) = tv d n + d n * 3 ^ n := rfl
theorem tv_lt {d : Nat → Nat} : ∀ {n}, (∀ f, f < n → d f < 3) → tv d n < 3 ^ n
  | 0, _ => by show 0 < 1; omega
  | n + 1, h => by
    have ih := tv_lt (d := d) (n := n) fun f hf => h f (by omega)
    have h3 := h n (by omega)
    have : d n * 3 ^ n ≤ 2 * 3 ^ n := Nat.mul_le_mul_right _ (by omega)
    rw [tvS, p3_s]; omega
theorem dg_tv {d : Nat → Nat} : ∀ {n f}, (∀ f, f < n → d f < 3) → f < n → dg (tv d n) f = d f
  | 0, f, _, hf => absurd hf (Nat.not_lt_zero _)
  | n + 1, f, h, hf => by
    have hl := tv_lt (d := d) (n := n) fun f hf => h f (by omega)
    rw [tvS, dg_put (dg_hi hl (Nat.le_refl _)) (h n (by omega))]
    by_cases e : f = n
    · rw [if_pos e, e]
    · rw [if_neg e]; exact dg_tv (n := n) (fun f hf => h f (by omega)) (by omega)
theorem dg_0 (x : Nat) : dg x 0 = x % 3 := by unfold dg; rw [Nat.pow_zero, Nat.div_one]
theorem dg_sh (x f : Nat) : dg x (f + 1) = dg (x / 3) f := by
  unfold dg
  rw [p3_s, Nat.mul_comm, Nat.div_div_eq_div_mul]
theorem dg_inj : ∀ {n x y}, x < 3 ^ n → y < 3 ^ n → (∀ f, f < n → dg x f = dg y f) → x = y
  | 0, x, y, hx, hy, _ => by
    have hx : x < 1 := hx
    have hy : y < 1 := hy
    omega
  | n + 1, x, y, hx, hy, h => by
    rw [p3_s] at hx hy
    have h0 := h 0 (by omega)
    rw [dg_0, dg_0] at h0
    have ih := dg_inj (n := n) (x := x / 3) (y := y / 3) (by omega) (by omega) fun f hf => by
      have := h (f + 1) (by omega)
      rw [dg_sh, dg_sh] at this; exact this
    omega
theorem tv_add {d e : Nat → Nat} : ∀ n, tv (fun f => d f + e f) n = tv d n + tv e n
  | 0 => rfl
  | n + 1 => by
    rw [tvS, tvS, tvS, tv_add n, Nat.add_mul]; omega
def b1 (s f : Nat) : Nat := if s.testBit f = true then 1 else 0
theorem b1_le (s f : Nat) : b1 s f ≤ 1 := by unfold b1; split <;> omega
def th (s : Nat) : Nat := tv (b1 s) 8
def nd (F S : Nat) : Nat := th F + th S
/-- one set within another -/
def sb (a b : Nat) : Prop := ∀ i, a.testBit i = true → b.testBit i = true
theorem sb_iff {a b : Nat} : (a ^^^ (a &&& b) = 0) ↔ sb a b := by
  constructor
  · intro h i hi
    have := congrArg (fun x => x.testBit i) h
    simp only [Nat.testBit_xor, Nat.testBit_and, Nat.zero_testBit, hi] at this
    cases e : b.testBit i
    · rw [e] at this; exact absurd this (by decide)
    · rfl
  · intro h
    apply Nat.eq_of_testBit_eq
    intro i
    rw [Nat.testBit_xor, Nat.testBit_and, Nat.zero_testBit]
    cases e : a.testBit i
    · rfl
    · rw [h i e]; rfl
theorem sb_and {a b : Nat} (h : sb a b) : a &&& b = a := by
  apply Nat.eq_of_testBit_eq
  intro i
  rw [Nat.testBit_and]
  cases e : a.testBit i
  · rfl
  · rw [h i e]; rfl
theorem sb_le {a b : Nat} (h : sb a b) : a ≤ b := by rw [← sb_and h]; exact Nat.and_le_right
theorem sb_rf (a : Nat) : sb a a := fun _ h => h
theorem sb_tr {a b c : Nat} (h : sb a b) (g : sb b c) : sb a c := fun i hi => g i (h i hi)
theorem nd_d {F S : Nat} (h : sb S F) (f : Nat) : b1 F f + b1 S f < 3 := by have := b1_le F f; have := b1_le S f; omega
theorem nd_tv (F S : Nat) : nd F S = tv (fun f => b1 F f + b1 S f) 8 := (tv_add 8).symm
theorem nd_lt (F S : Nat) : nd F S < 6561 := by
  rw [nd_tv]
  exact tv_lt fun f _ => by have := b1_le F f; have := b1_le S f; omega
theorem dg_nd (F S : Nat) {f : Nat} (hf : f < 8) : dg (nd F S) f = b1 F f + b1 S f := by
  rw [nd_tv, dg_tv (fun f _ => by have := b1_le F f; have := b1_le S f; omega) hf]
theorem th_lt (s : Nat) : th s < 6561 := tv_lt (n := 8) fun f _ => by have := b1_le s f; omega
theorem nd_inj {F S F' S' : Nat} (hF : F < 256) (hF' : F' < 256) (h : sb S F) (h' : sb S' F') (e : nd F S = nd F' S') : F = F' ∧ S = S' := by
  have hb : ∀ i, F.testBit i = F'.testBit i ∧ S.testBit i = S'.testBit i := by
    intro i
    by_cases hi : i < 8
    · have e1 := dg_nd F S hi
      have e2 := dg_nd F' S' hi
      rw [e, e2] at e1
      have k1 := h i; have k2 := h' i
      revert e1 k1 k2
      unfold b1
      cases F.testBit i <;> cases S.testBit i <;> cases F'.testBit i <;> cases S'.testBit i <;> simp
    · have z : ∀ x, x < 256 → x.testBit i = false := fun x hx => Nat.testBit_lt_two_pow (Nat.lt_of_lt_of_le (show x < 2 ^ 8 from hx) (Nat.pow_le_pow_right (by omega) (by omega)))
      have hS := Nat.lt_of_le_of_lt (sb_le h) hF
      have hS' := Nat.lt_of_le_of_lt (sb_le h') hF'
      exact ⟨by rw [z F hF, z F' hF'], by rw [z S hS, z S' hS']⟩
  exact ⟨Nat.eq_of_testBit_eq fun i => (hb i).1, Nat.eq_of_testBit_eq fun i => (hb i).2⟩
theorem tb_or1 {s f i : Nat} : (s ||| 2 ^ f).testBit i = (s.testBit i || decide (i = f)) := by
  rw [Nat.testBit_or, Nat.testBit_two_pow]
  congr 1
  by_cases h : i = f
  · subst h; simp
  · rw [decide_eq_false h, decide_eq_false (Ne.symm h)]
theorem th_or {s f : Nat} (hf : f < 8) (h0 : s.testBit f = false) : th (s ||| 2 ^ f) = th s + 3 ^ f := by
  have key : ∀ n, tv (b1 (s ||| 2 ^ f)) n = tv (b1 s) n + (if f < n then 3 ^ f else 0) := by
    intro n
    induction n with
    | zero => rfl
    | succ n ih =>
      rw [tvS, tvS, ih]
      have e : b1 (s ||| 2 ^ f) n = b1 s n + (if n = f then 1 else 0) := by
        unfold b1
        rw [tb_or1]
        by_cases q : n = f
        · subst q; rw [h0]; simp
        · simp [q]
      rw [e, Nat.add_mul]
      by_cases q : n = f
      · subst q; simp; omega
      · rw [if_neg q]
        by_cases q2 : f < n
        · rw [if_pos q2, if_pos (by omega)]; omega
        · rw [if_neg q2, if_neg (by omega)]; omega
  have := key 8
  rw [if_pos hf] at this
  exact this
theorem th_0 : th 0 = 0 := by decide
theorem th_1 {f : Nat} (hf : f < 8) : th (2 ^ f) = 3 ^ f := by
  have := th_or (s := 0) hf (Nat.zero_testBit _)
  rw [Nat.zero_or, th_0, Nat.zero_add] at this; exact this
theorem nd_or1 {F S f : Nat} (hf : f < 8) (h0 : F.testBit f = false) : nd (F ||| 2 ^ f) S = nd F S + 3 ^ f := by unfold nd; rw [th_or hf h0]; omega
theorem nd_or2 {F S f : Nat} (hf : f < 8) (h0 : F.testBit f = false) (hs : sb S F) : nd (F ||| 2 ^ f) (S ||| 2 ^ f) = nd F S + 2 * 3 ^ f := by
  have h1 : S.testBit f = false := by
    cases e : S.testBit f
    · rfl
    · rw [hs f e] at h0; cases h0
  unfold nd; rw [th_or hf h0, th_or hf h1]; omega
/-- or over the worlds -/
def og (g : Nat → Nat) : Nat → Nat
  | 0 => 0
  | n + 1 => og g n ||| g n
theorem ogS (g : Nat → Nat) (n : Nat) : og g (n + 1) = og g n ||| g n := rfl
theorem og_or {g g1 g2 : Nat → Nat} : ∀ {n}, (∀ v, v < n → g v = g1 v ||| g2 v) → og g n = og g1 n ||| og g2 n
  | 0, _ => by show (0 : Nat) = 0 ||| 0; rfl
  | n + 1, h => by
    rw [ogS, ogS, ogS, og_or (n := n) fun v hv => h v (by omega), h n (by omega)]
    apply Nat.eq_of_testBit_eq; intro i
    simp only [Nat.testBit_or]
    cases (og g1 n).testBit i <;> cases (og g2 n).testBit i <;> cases (g1 n).testBit i <;> cases (g2 n).testBit i <;> rfl
theorem og_0 {g : Nat → Nat} : ∀ {n}, (∀ v, v < n → g v = 0) → og g n = 0
  | 0, _ => rfl
  | n + 1, h => by rw [ogS, og_0 (n := n) fun v hv => h v (by omega), h n (by omega)]; rfl
theorem og_one {g : Nat → Nat} {v : Nat} : ∀ {n}, v < n → (∀ w, w < n → w ≠ v → g w = 0) → og g n = g v
  | 0, h, _ => absurd h (Nat.not_lt_zero _)
  | n + 1, h, hz => by
    rw [ogS]
    by_cases e : v = n
    · subst e
      rw [og_0 fun w hw => hz w (by omega) (by omega), Nat.zero_or]
    · rw [og_one (n := n) (by omega) fun w hw => hz w (by omega), hz n (by omega) (Ne.symm e), Nat.or_zero]
theorem og_bit {g : Nat → Nat} {i : Nat} : ∀ {n}, (og g n).testBit i = anyB (fun v => (g v).testBit i) n
  | 0 => Nat.zero_testBit _
  | n + 1 => by rw [ogS, Nat.testBit_or, og_bit (n := n)]; rfl
def inT (F B fs so v : Nat) : Bool := decide (v = (v &&& F) ||| B) && decide (v &&& fs = so)
/-- the mark of a node -/
def mk (lv : Nat → Nat) (F B fs so : Nat) : Nat := og (fun v => if inT F B fs so v = true then lv v else 0) 256
theorem mk_leaf {lv : Nat → Nat} {F B so : Nat} (hF : F < 256) (hB : B < 256) (h0 : F &&& B = 0) (hs : sb so F) : mk lv F B F so = lv (so ||| B) := by
  have hso := Nat.lt_of_le_of_lt (sb_le hs) hF
  have e1 : (so ||| B) &&& F = so := by
    apply Nat.eq_of_testBit_eq; intro i
    have hz := congrArg (fun x => x.testBit i) h0
    simp only [Nat.testBit_and, Nat.zero_testBit] at hz
    have := hs i
    rw [Nat.testBit_and, Nat.testBit_or]
    revert hz this
    cases so.testBit i <;> cases B.testBit i <;> cases F.testBit i <;> simp
  unfold mk
  rw [og_one (v := so ||| B) (nx_or_lt hso hB) fun w _ hne => ?_]
  · have : inT F B F so (so ||| B) = true := by unfold inT; rw [e1, decide_eq_true rfl, decide_eq_true rfl]; rfl
    rw [this, if_pos rfl]
  · cases e : inT F B F so w
    · rfl
    · unfold inT at e
      rw [Bool.and_eq_true] at e
      have a1 := of_decide_eq_true e.1
      have a2 := of_decide_eq_true e.2
      rw [a2] at a1
      exact absurd a1 hne
theorem and_or1 {v fs f : Nat} : v &&& (fs ||| 2 ^ f) = (v &&& fs) ||| (if v.testBit f = true then 2 ^ f else 0) := by
  apply Nat.eq_of_testBit_eq; intro i
  rw [Nat.testBit_and, tb_or1, Nat.testBit_or, Nat.testBit_and]
  by_cases e : i = f
  · subst e
    cases hv : v.testBit i <;> simp
  · rw [decide_eq_false e]
    cases v.testBit f
    · simp
    · rw [if_pos rfl, Nat.testBit_two_pow, decide_eq_false (Ne.symm e)]; simp
theorem mk_split {lv : Nat → Nat} {F B fs so f : Nat} (hf0 : fs.testBit f = false) (hs : sb so fs) : mk lv F B fs so = mk lv F B (fs ||| 2 ^ f) so ||| mk lv F B (fs ||| 2 ^ f) (so ||| 2 ^ f) := by
  have hso : so.testBit f = false := by
    cases e : so.testBit f
    · rfl
    · rw [hs f e] at hf0; cases hf0
  refine og_or fun v _ => ?_
  show (if inT F B fs so v = true then lv v else 0) = (if inT F B (fs ||| 2 ^ f) so v = true then lv v else 0) ||| (if inT F B (fs ||| 2 ^ f) (so ||| 2 ^ f) v = true then lv v else 0)
  unfold inT
  rw [and_or1]
  cases decide (v = (v &&& F) ||| B)
  · simp
  · rw [Bool.true_and, Bool.true_and, Bool.true_and]
    have vf : (v &&& fs).testBit f = false := by rw [Nat.testBit_and, hf0, Bool.and_false]
    cases hv : v.testBit f
    · rw [if_neg (show ¬ false = true by decide), Nat.or_zero]
      have ne : ¬ v &&& fs = so ||| 2 ^ f := by
        intro e
        have := congrArg (fun x => x.testBit f) e
        simp only [vf, tb_or1, decide_true, Bool.or_true] at this
        cases this
      rw [decide_eq_false ne, if_neg (show ¬ false = true by decide), Nat.or_zero]
    · rw [if_pos rfl]
      have ne : ¬ (v &&& fs) ||| 2 ^ f = so := by
        intro e
        have := congrArg (fun x => x.testBit f) e
        simp only [hso, tb_or1, decide_true, Bool.or_true] at this
        cases this
      have iff : ((v &&& fs) ||| 2 ^ f = so ||| 2 ^ f) ↔ (v &&& fs = so) := by
        constructor
        · intro e
          apply Nat.eq_of_testBit_eq; intro i
          by_cases q : i = f
          · subst q; rw [vf, hso]
          · have := congrArg (fun x => x.testBit i) e
            simp only [tb_or1, decide_eq_false q, Bool.or_false] at this
            exact this
        · intro e; rw [e]
      rw [decide_eq_false ne, if_neg (show ¬ false = true by decide), Nat.zero_or]
      simp only [decide_eq_decide.mpr iff]
end Three
