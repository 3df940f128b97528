section Reach
/-! WHO IS REACHED among eight -/
def rea (R : Nat → Nat → Bool) : Nat → Nat → Nat → Bool
  | 0, a, b => decide (a = b)
  | n + 1, a, b => rea R n a b || anyB (fun c => R a c && rea R n c b) 8
def fz (R : Nat → Nat → Bool) (k : Nat) : Nat := match fstB (fun j => rea R 8 k j) 8 with
  | some j => j
  | none => k
variable {R : Nat → Nat → Bool}
theorem rea_s (n a b : Nat) : rea R (n + 1) a b = (rea R n a b || anyB (fun c => R a c && rea R n c b) 8) := rfl
theorem rea_up {n a b : Nat} (h : rea R n a b = true) : rea R (n + 1) a b = true := by rw [rea_s, h]; rfl
theorem rea_mono {n m a b : Nat} (hnm : n ≤ m) (h : rea R n a b = true) : rea R m a b = true := by
  obtain ⟨d, rfl⟩ := Nat.le.dest hnm
  induction d with
  | zero => exact h
  | succ d ih => exact rea_up (ih (by omega))
theorem rea_rf (n a : Nat) : rea R n a a = true := rea_mono (Nat.zero_le n) (decide_eq_true rfl)
theorem rea_cons {n a c b : Nat} (hc : c < 8) (h1 : R a c = true) (h2 : rea R n c b = true) : rea R (n + 1) a b = true := by
  rw [rea_s, anyB_iff.mpr ⟨c, hc, by rw [h1, h2]; rfl⟩, Bool.or_true]
theorem rea_inv {n a b : Nat} (h : rea R (n + 1) a b = true) : rea R n a b = true ∨ ∃ c, c < 8 ∧ R a c = true ∧ rea R n c b = true := by
  rw [rea_s, Bool.or_eq_true] at h
  rcases h with h | h
  · exact Or.inl h
  · obtain ⟨c, hc, h⟩ := anyB_iff.mp h
    rw [Bool.and_eq_true] at h
    exact Or.inr ⟨c, hc, h.1, h.2⟩
theorem cntB_leq {p q : Nat → Bool} : ∀ {n : Nat}, (∀ i, i < n → p i = true → q i = true) → cntB p n ≤ cntB q n
  | 0, _ => Nat.le_refl _
  | n + 1, h => by
    have ih := cntB_leq (n := n) fun i hi => h i (by omega)
    have := h n (by omega)
    show cntB p n + (if p n = true then 1 else 0) ≤ cntB q n + (if q n = true then 1 else 0)
    by_cases hp : p n = true
    · rw [if_pos hp, if_pos (this hp)]; omega
    · rw [if_neg hp]; omega
theorem cntB_lt {p q : Nat → Bool} : ∀ {n : Nat}, (∀ i, i < n → p i = true → q i = true) → ∀ {j : Nat}, j < n → p j = false → q j = true → cntB p n < cntB q n
  | 0, _, j, hj, _, _ => absurd hj (Nat.not_lt_zero _)
  | n + 1, h, j, hj, h1, h2 => by
    have := h n (by omega)
    show cntB p n + (if p n = true then 1 else 0) < cntB q n + (if q n = true then 1 else 0)
    by_cases e : j = n
    · subst e
      have ih := cntB_leq (n := j) fun i hi => h i (by omega)
      rw [if_neg (by rw [h1]; decide), if_pos h2]; omega
    · have ih := cntB_lt (n := n) (fun i hi => h i (by omega)) (show j < n by omega) h1 h2
      by_cases hp : p n = true
      · rw [if_pos hp, if_pos (this hp)]; omega
      · rw [if_neg hp]; omega
theorem rea_grows (b : Nat) : ∀ n, (∃ m, m < n ∧ ∀ a, a < 8 → rea R (m + 1) a b = true → rea R m a b = true) ∨ n ≤ cntB (fun a => rea R n a b) 8
  | 0 => Or.inr (Nat.zero_le _)
  | n + 1 => by
    rcases rea_grows b n with ⟨m, hm, h⟩ | h
    · exact Or.inl ⟨m, by omega, h⟩
    · by_cases hs : ∀ a, a < 8 → rea R (n + 1) a b = true → rea R n a b = true
      · exact Or.inl ⟨n, by omega, hs⟩
      · refine Or.inr ?_
        have ⟨a, ha⟩ := Classical.not_forall.mp hs
        have ⟨ha8, ha⟩ := Classical.not_imp.mp ha
        have ⟨h1, h2⟩ := Classical.not_imp.mp ha
        have := cntB_lt (p := fun a => rea R n a b) (q := fun a => rea R (n + 1) a b) (n := 8) (fun i _ hi => rea_up hi) ha8 (by simpa using h2) h1
        omega
theorem rea_still {b m : Nat} (h : ∀ a, a < 8 → rea R (m + 1) a b = true → rea R m a b = true) : ∀ d a, a < 8 → rea R (m + d) a b = true → rea R m a b = true
  | 0, a, _, h1 => h1
  | d + 1, a, ha, h1 => by
    rcases rea_inv (n := m + d) h1 with h2 | ⟨c, hc, h2, h3⟩
    · exact rea_still h d a ha h2
    · exact h a ha (rea_cons hc h2 (rea_still h d c hc h3))
theorem rea_8 {n a b : Nat} (ha : a < 8) (h : rea R n a b = true) : rea R 8 a b = true := by
  rcases rea_grows (R := R) b 9 with ⟨m, hm, hs⟩ | h9
  · have h1 : rea R (m + n) a b = true := rea_mono (by omega) h
    exact rea_mono (by omega) (rea_still hs n a ha h1)
  · have := cntB_le (fun a => rea R 9 a b) 8
    omega
theorem rea_F {F : Nat → Nat} (he : ∀ a c, a < 8 → c < 8 → R a c = true → F a = F c) : ∀ n a b, a < 8 → rea R n a b = true → F a = F b
  | 0, a, b, _, h => by rw [of_decide_eq_true h]
  | n + 1, a, b, ha, h => by
    rcases rea_inv h with h | ⟨c, hc, h1, h2⟩
    · exact rea_F he n a b ha h
    · rw [he a c ha hc h1]; exact rea_F he n c b hc h2
theorem fz_spec {k : Nat} (hk' : k < 8) : fz R k ≤ k ∧ rea R 8 k (fz R k) = true ∧ ∀ j, j < fz R k → rea R 8 k j = false := by
  unfold fz
  cases h : fstB (fun j => rea R 8 k j) 8 with
  | none => have := fstB_none.mp h k hk'; rw [rea_rf] at this; cases this
  | some j =>
    obtain ⟨h1, h2, h3⟩ := fstB_some.mp h
    refine ⟨?_, h2, h3⟩
    rcases Nat.lt_or_ge k j with h4 | h4
    · have := h3 k h4; simp only [rea_rf] at this; cases this
    · exact h4
theorem fz_uniq {F : Nat → Nat} (he : ∀ a c, a < 8 → c < 8 → R a c = true → F a = F c) (hF : ∀ k, k < 8 → rea R 8 k (F k) = true ∧ F k ≤ k) {k : Nat} (hk' : k < 8) : fz R k = F k := by
  obtain ⟨h1, h2, h3⟩ := fz_spec (R := R) hk'
  have e := rea_F he 8 k (fz R k) hk' h2
  have l := (hF (fz R k) (by omega)).2
  rw [← e] at l
  rcases Nat.lt_or_ge (F k) (fz R k) with h4 | h4
  · have := h3 _ h4; rw [(hF k hk').1] at this; cases this
  · omega
theorem rea_sub {R' : Nat → Nat → Bool} (hs : ∀ a b, R a b = true → R' a b = true) : ∀ n a b, rea R n a b = true → rea R' n a b = true
  | 0, a, b, h => h
  | n + 1, a, b, h => by
    rcases rea_inv h with h | ⟨c, hc, h1, h2⟩
    · exact rea_up (rea_sub hs n a b h)
    · exact rea_cons hc (hs a c h1) (rea_sub hs n c b h2)
/-- one sweep over pairs, and eight of them -/
def swp (E : Nat → Nat → Bool) (n : Nat) (M0 M : Nat → Nat) (a b : Nat) : Prop :=
  (∀ c, c < 8 → M c ≤ M0 c ∧ M c ≤ c ∧ rea R 8 c (M c) = true) ∧ ∀ x y, (x < a ∨ (x = a ∧ y < b)) → x < n → y < n → E x y = true → M x ≤ M0 y ∧ M y ≤ M0 x
theorem swp_next {E : Nat → Nat → Bool} {n a b : Nat} {M0 M : Nat → Nat} (hn : n ≤ 8) (hE : ∀ x y, x < n → y < n → E x y = true → R x y = true ∧ R y x = true) (ha : a < n) (hb : b < n) (h : swp (R := R) E n M0 M a b) :
    swp (R := R) E n M0 (if E a b = true then (fun c => if c = a ∨ c = b then min (M a) (M b) else M c) else M) a (b + 1) := by
  obtain ⟨h1, h2⟩ := h
  by_cases he : E a b = true
  · rw [if_pos he]
    obtain ⟨r1, r2⟩ := hE a b ha hb he
    have ha8 : a < 8 := by omega
    have hb8 : b < 8 := by omega
    have dn : ∀ c, (if c = a ∨ c = b then min (M a) (M b) else M c) ≤ M c := fun c => by
      split
      · rename_i hc; rcases hc with rfl | rfl <;> omega
      · exact Nat.le_refl _
    refine ⟨fun c hc => ⟨Nat.le_trans (dn c) (h1 c hc).1, Nat.le_trans (dn c) (h1 c hc).2.1, ?_⟩, fun x y hxy hx hy hxe => ?_⟩
    · show rea R 8 c (if c = a ∨ c = b then min (M a) (M b) else M c) = true
      split
      · rename_i hca
        have ra := (h1 a ha8).2.2
        have rb := (h1 b hb8).2.2
        rw [Nat.min_def]
        rcases hca with rfl | rfl
        · split
          · exact ra
          · exact rea_8 hc (rea_cons hb8 r1 rb)
        · split
          · exact rea_8 hc (rea_cons ha8 r2 ra)
          · exact rb
      · exact (h1 c hc).2.2
    · show (if x = a ∨ x = b then min (M a) (M b) else M x) ≤ M0 y ∧ (if y = a ∨ y = b then min (M a) (M b) else M y) ≤ M0 x
      by_cases hl : x < a ∨ (x = a ∧ y < b)
      · obtain ⟨k1, k2⟩ := h2 x y hl hx hy hxe
        exact ⟨Nat.le_trans (dn x) k1, Nat.le_trans (dn y) k2⟩
      · have hx' : x = a ∧ y = b := by omega
        obtain ⟨rfl, rfl⟩ := hx'
        rw [if_pos (Or.inl rfl), if_pos (Or.inr rfl)]
        have := (h1 x ha8).1; have := (h1 y hb8).1
        omega
  · rw [if_neg he]
    refine ⟨h1, fun x y hxy hx hy hxe => ?_⟩
    by_cases hl : x < a ∨ (x = a ∧ y < b)
    · exact h2 x y hl hx hy hxe
    · have hx' : x = a ∧ y = b := by omega
      obtain ⟨rfl, rfl⟩ := hx'
      exact absurd hxe he
def swI (R : Nat → Nat → Bool) (M : Nat → Nat) (i : Nat) : Prop := ∀ c, c < 8 → M c ≤ c ∧ rea R 8 c (M c) = true ∧ ∀ j, rea R i c j = true → M c ≤ j
theorem swI_0 : swI R (fun c => c) 0 := fun c _ => ⟨Nat.le_refl _, rea_rf _ _, fun j h => by rw [of_decide_eq_true h]; exact Nat.le_refl _⟩
theorem swp_0 {E : Nat → Nat → Bool} {n i : Nat} {M : Nat → Nat} (h : swI R M i) : swp (R := R) E n M M 0 0 := ⟨fun c hc => ⟨Nat.le_refl _, (h c hc).1, (h c hc).2.1⟩, fun x y hxy => by omega⟩
theorem swp_row {E : Nat → Nat → Bool} {n a : Nat} {M0 M : Nat → Nat} (h : swp (R := R) E n M0 M a n) : swp (R := R) E n M0 M (a + 1) 0 :=
  ⟨h.1, fun x y hxy hx hy hE => h.2 x y (by omega) hx hy hE⟩
theorem swI_s {E : Nat → Nat → Bool} {n i : Nat} {M0 M : Nat → Nat} (hR : ∀ x y, x < 8 → y < 8 → R x y = true → x < n ∧ y < n ∧ (E x y = true ∨ E y x = true)) (hi : swI R M0 i) (h : swp (R := R) E n M0 M n 0) : swI R M (i + 1) := by
  intro c hc
  refine ⟨(h.1 c hc).2.1, (h.1 c hc).2.2, fun j hj => ?_⟩
  rcases rea_inv hj with h1 | ⟨d, hd, h1, h2⟩
  · exact Nat.le_trans (h.1 c hc).1 ((hi c hc).2.2 j h1)
  · obtain ⟨hcn, hdn, hE⟩ := hR c d hc hd h1
    have hM : M c ≤ M0 d := by
      rcases hE with hE | hE
      · exact (h.2 c d (by omega) hcn hdn hE).1
      · exact (h.2 d c (by omega) hdn hcn hE).2
    exact Nat.le_trans hM ((hi d hd).2.2 j h2)
theorem swI_8 {M : Nat → Nat} (h : swI R M 8) {c : Nat} (hc : c < 8) : M c = fz R c := by
  obtain ⟨h1, h2, h3⟩ := fz_spec (R := R) hc
  have h4 := (h c hc).2.2 _ h2
  rcases Nat.lt_or_ge (M c) (fz R c) with h5 | h5
  · have := h3 _ h5; rw [(h c hc).2.1] at this; cases this
  · omega
end Reach
