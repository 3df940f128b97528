section Wg
variable {σ : Sg} {I I' : Nat → Nat → Int32} {L L' : Nat → Nat → Int64}
def sm (g : Nat → Nat) (p : Nat → Bool) : Nat → Nat
  | 0 => 0
  | n + 1 => sm g p n + (if p n = true then g n else 0)
theorem sm_le {g : Nat → Nat} {p : Nat → Bool} {m : Nat} : ∀ {n : Nat}, (∀ i, i < n → g i ≤ m) → sm g p n ≤ n * m
  | 0, _ => by show 0 ≤ _; omega
  | n + 1, h => by
    have ih := sm_le (g := g) (p := p) (n := n) fun i hi => h i (by omega)
    have := h n (by omega)
    show sm g p n + (if p n = true then g n else 0) ≤ _
    rw [Nat.succ_mul]
    split <;> omega
theorem sm_pos {g : Nat → Nat} {p : Nat → Bool} {n i : Nat} (hi : i < n) (hp : p i = true) (hg : 0 < g i) : 0 < sm g p n := by
  induction n with
  | zero => omega
  | succ n ih =>
    show 0 < sm g p n + (if p n = true then g n else 0)
    by_cases e : i = n
    · subst e; rw [if_pos hp]; omega
    · have := ih (by omega); omega
theorem wt_b {T : Nat → Nat} (hW : WT T) (w : Nat) : ∀ f, f ≤ T 1 → 1 ≤ wt T w f ∧ wt T w f ≤ 9 ^ f
  | 0, _ => ⟨Nat.le_refl _, Nat.le_refl _⟩
  | f + 1, h => by
    obtain ⟨h1, h2⟩ := wt_b hW w f (by omega)
    have := hW.2.1 f (by omega)
    show 1 ≤ wt T w f * (if w.testBit f = true then T (8 + f) else 10 - T (8 + f)) ∧ wt T w f * (if w.testBit f = true then T (8 + f) else 10 - T (8 + f)) ≤ 9 ^ f * 9
    have hb : 1 ≤ (if w.testBit f = true then T (8 + f) else 10 - T (8 + f)) ∧ (if w.testBit f = true then T (8 + f) else 10 - T (8 + f)) ≤ 9 := by split <;> omega
    exact ⟨Nat.mul_pos h1 hb.1, Nat.mul_le_mul h2 hb.2⟩
def wg (T : Nat → Nat) (w : Nat) : Nat := wt T w (T 1)
theorem wg_b {T : Nat → Nat} (hW : WT T) (w : Nat) : 1 ≤ wg T w ∧ wg T w ≤ 43046721 := by
  obtain ⟨h1, h2⟩ := wt_b hW w (T 1) (Nat.le_refl _)
  have w1 := hW.1.2.1
  exact ⟨h1, Nat.le_trans h2 (Nat.le_trans (Nat.pow_le_pow_right (n := 9) (by omega) w1) (by decide))⟩
theorem sm_b {T : Nat → Nat} (hW : WT T) (p : Nat → Bool) {n : Nat} (hn : n ≤ 256) : sm (wg T) p n ≤ 11019960576 := by
  have := sm_le (g := wg T) (p := p) (n := n) (m := 43046721) fun i _ => (wg_b hW i).2
  have h2 : n * 43046721 ≤ 256 * 43046721 := Nat.mul_le_mul_right _ hn
  omega
/-- Euclid's pairs -/
def eu (c r : Nat) : Nat → Nat × Nat
  | 0 => (c, r)
  | n + 1 => ((eu c r n).2, (eu c r n).1 % (eu c r n).2)
theorem eu_shift (c r : Nat) : ∀ n, eu c r (n + 1) = eu r (c % r) n
  | 0 => rfl
  | n + 1 => by
    show ((eu c r (n + 1)).2, (eu c r (n + 1)).1 % (eu c r (n + 1)).2) = _
    rw [eu_shift c r n]; rfl
/-- after how many it stands -/
theorem eu_end : ∀ (m c r : Nat), r < 2 ^ m → 0 < c → ∃ n, n ≤ 2 * m ∧ (eu c r n).2 = 0 ∧ 0 < (eu c r n).1 ∧ (∀ i, i < n → 0 < (eu c r i).2) ∧ ∀ i, i ≤ n → (eu c r i).1 ≤ max c r ∧ (eu c r i).2 ≤ max c r
  | 0, c, r, hr, hc => by
    have : r = 0 := by simpa using hr
    subst this
    exact ⟨0, Nat.le_refl _, rfl, hc, fun i hi => absurd hi (Nat.not_lt_zero _), fun i hi => by
      have : i = 0 := by omega
      subst this
      show c ≤ max c 0 ∧ 0 ≤ max c 0
      omega⟩
  | m + 1, c, r, hr, hc => by
    by_cases h0 : r = 0
    · subst h0
      exact ⟨0, Nat.zero_le _, rfl, hc, fun i hi => absurd hi (Nat.not_lt_zero _), fun i hi => by
        have : i = 0 := by omega
        subst this
        show c ≤ max c 0 ∧ 0 ≤ max c 0
        omega⟩
    · have h1 : c % r < r := Nat.mod_lt _ (by omega)
      by_cases hz : c % r = 0
      · refine ⟨1, by omega, hz, by show 0 < r; omega, fun i hi => ?_, fun i hi => ?_⟩
        · have : i = 0 := by omega
          subst this; show 0 < r; omega
        · rcases (show i = 0 ∨ i = 1 by omega) with rfl | rfl
          · show c ≤ max c r ∧ r ≤ max c r; omega
          · show r ≤ max c r ∧ c % r ≤ max c r; omega
      · have h2 : r % (c % r) < c % r := Nat.mod_lt _ (by omega)
        have h3 : r % (c % r) < 2 ^ m := by
          rw [Nat.pow_succ] at hr
          by_cases q : c % r < 2 ^ m
          · omega
          · have e : r % (c % r) = (r - c % r) % (c % r) := Nat.mod_eq_sub_mod (by omega)
            have := Nat.mod_le (r - c % r) (c % r)
            omega
        obtain ⟨n, g1, g2, g3, g4, g5⟩ := eu_end m (c % r) (r % (c % r)) h3 (by omega)
        have sh : ∀ i, eu c r (i + 2) = eu (c % r) (r % (c % r)) i := fun i => by
          rw [eu_shift c r (i + 1), eu_shift r (c % r) i]
        refine ⟨n + 2, by omega, by rw [sh]; exact g2, by rw [sh]; exact g3, fun i hi => ?_, fun i hi => ?_⟩
        · rcases (show i = 0 ∨ i = 1 ∨ ∃ j, i = j + 2 from by
            match i with
            | 0 => exact Or.inl rfl
            | 1 => exact Or.inr (Or.inl rfl)
            | j + 2 => exact Or.inr (Or.inr ⟨j, rfl⟩)) with rfl | rfl | ⟨j, rfl⟩
          · show 0 < r; omega
          · show 0 < c % r; omega
          · rw [sh]; exact g4 j (by omega)
        · rcases (show i = 0 ∨ i = 1 ∨ ∃ j, i = j + 2 from by
            match i with
            | 0 => exact Or.inl rfl
            | 1 => exact Or.inr (Or.inl rfl)
            | j + 2 => exact Or.inr (Or.inr ⟨j, rfl⟩)) with rfl | rfl | ⟨j, rfl⟩
          · show c ≤ max c r ∧ r ≤ max c r; omega
          · show r ≤ max c r ∧ c % r ≤ max c r; omega
          · rw [sh]
            have := g5 j (by omega)
            omega
theorem lN_0 {a : Nat} (ha : a < 2 ^ 62) : (lg_cmp (lN a) 0 = 0) = (a = 0) := by
  rw [lg_cmp0, show (0 : Int64) = lN 0 from rfl]
  exact propext (lN_eq' ha (by omega))
theorem nzL_n {ρ : Type} {a : Nat} (h0 : 0 < a) (ha : a < 2 ^ 62) (f : Int64 → Option ρ) : (nzL (lN a)).bind f = f (lN a) := by
  unfold nzL
  rw [if_neg (by rw [show (0 : Int64) = lN 0 from rfl, lN_eq' ha (by omega)]; omega), obind]
theorem lN_mod {a b : Nat} (ha : a < 2 ^ 62) (hb0 : 0 < b) (hb : b < 2 ^ 62) : lN a - lN a / lN b * lN b = lN (a % b) := by
  rw [lN_div ha hb0 hb, lN_mul, lN_sub (Nat.div_mul_le_self a b)]
  congr 1
  have := Nat.div_add_mod a b
  rw [Nat.mul_comm] at this; omega
/-- the weights of a row of worlds -/
theorem weigh_ok {T N : Nat → Nat} (h : CR σ I L T N) {a p : Nat} {f : Nat → Bool} (hw : isW (hk σ I L) a p) (hf : Rw (L p) f) : mX1_weigh (gla σ) a (hk σ I L) = some (lN (sm (wg T) f 256)) := by
  have hW := h.2.1
  have hla := h.1.1
  have hwt := h.2.2.2.1.2.2.2.2.2.1
  unfold mX1_weigh mX1_weigh_l5
  rw [if_pos (show (hpS (hk σ I L) (gla σ)).1 = 2 by rw [show hpS (hk σ I L) (gla σ) = SH (gN σ) (gla σ) from rfl, SH_la0 hla])]
  refine lp_traj (f := fun s : Int64 × Int32 => mX1_weigh_l5f (gla σ) a (hk σ I L) s.1 s.2) 256 (fun i => (lN (sm (wg T) f i), nI i)) _ (fun i hi => ?_) ?_
  · show mX1_weigh_l5f (gla σ) a (hk σ I L) (lN (sm (wg T) f i)) (nI i) = _
    have b := wg_b hW i
    unfold mX1_weigh_l5f mX1_weigh_b35
    rw [show (256 : Int32) = nI 256 from rfl, c_lt hi (by omega), holds_ok hw (by rw [hpL_hk'']; exact hf) hi, obind, bI_if0, gR_la hla, obind, RF_la_16 σ hla, at_r (SH_la10 hla) (by omega) (by omega), obind, hwt i hi, show wt T i (T 1) = wg T i from rfl, nI_l (by omega), lN_add, nI_1]
    show _ = some (Sum.inl (lN (sm (wg T) f i + (if f i = true then wg T i else 0)), nI (i + 1)))
    cases f i <;> rfl
  · show mX1_weigh_l5f (gla σ) a (hk σ I L) (lN (sm (wg T) f 256)) (nI 256) = _
    unfold mX1_weigh_l5f
    rw [if_neg (by decide), xts]
/-- chance -/
theorem chW {T N : Nat → Nat} {k w : Nat} : (lft T N w && won T k w) = true → lft T N w = true := fun h => by rw [Bool.and_eq_true] at h; exact h.1
theorem all_pos {T N : Nat → Nat} (hW : WT T) (hN : WN T N) : 0 < sm (wg T) (lft T N) 256 := by
  obtain ⟨w, hw, hl⟩ := hN.2.2.2.2.2
  exact sm_pos hw hl (wg_b hW w).1
end Wg
