/-! THE LAW between its calls; answers that what is told and what is now decide -/
/-- the law's own shape, its class, its script -/
def LF (σ : Sg) : Prop := SH (gN σ) 99 = (16, 12) ∧ RF σ 99 0 = 100 ∧ RF σ 99 1 = 1 ∧ ∃ m, m ≤ 260 ∧ SH (gN σ) 1 = (80, m)
def AnR {ρ : Type} (T N : Nat → Nat) (r : Int32 → Hp → ρ) (m : Hp → Option ρ) : Prop := ∃ v : Int32, ∀ σ I L a P K Q, LF σ → CB σ I L T N a P K Q → ∃ I1 L1, m (hk σ I L) = some (r v (hk σ I1 L1)) ∧ FrC I L I1 L1
abbrev Ans (T N : Nat → Nat) (m : Hp → Option (Int32 × Hp)) : Prop := AnR T N (fun v h => (v, h)) m
section E1
variable {σ σ' : Sg} {I I' I1 I2 : Nat → Nat → Int32} {L L' L1 L2 : Nat → Nat → Int64} {T N : Nat → Nat} {a : Nat} {P : Nat → Nat → Nat} {K : Nat → Bool} {Q : Nat → Nat → Nat}
theorem s99 (h : LF σ) : (hpS (hk σ I L) 99).1 = 16 := by rw [hpS_hk, h.1]
theorem gX (h : LF σ) {ρ : Type} (f : Nat → Option ρ) : (gR 15 0 99 (hk σ I L)).bind f = f 100 := by
  rw [gR_ok (s99 h), obind, hpR_hk, h.2.1]
theorem Ans.mk {m : Hp → Option (Int32 × Hp)} (v : Int32) (h : ∀ σ I L a P K Q, CB σ I L T N a P K Q → ∃ I1 L1, m (hk σ I L) = some (v, hk σ I1 L1) ∧ FrC I L I1 L1) : Ans T N m := ⟨v, fun σ I L a P K Q _ cb => h σ I L a P K Q cb⟩
/-- a loop that asks -/
theorem AnR.loop {S ρ : Type} {f : S → Option (S ⊕ ρ)} (G : Int32 → Nat → Hp → S) (n : Nat) (r : Int32 → Hp → ρ) (hs : ∀ i x, i < n → AnR T N (fun v h => (Sum.inl (G v (i + 1) h) : S ⊕ ρ)) (fun h => f (G x i h)))
    (hz : ∀ x, AnR T N (fun v h => (Sum.inr (r v h) : S ⊕ ρ)) (fun h => f (G x n h))) : ∀ d i x, i + d = n → AnR T N r (fun h => lp f (G x i h))
  | 0, i, x, hi => by
    obtain ⟨v, hv⟩ := hz x
    refine ⟨v, fun σ I L a P K Q lf cb => ?_⟩
    obtain ⟨I1, L1, e1, f1⟩ := hv σ I L a P K Q lf cb
    refine ⟨I1, L1, ?_, f1⟩
    obtain rfl : i = n := by omega
    exact lp_inr e1
  | d + 1, i, x, hi => by
    obtain ⟨v, hv⟩ := hs i x (by omega)
    obtain ⟨v2, h2⟩ := AnR.loop G n r hs hz d (i + 1) v (by omega)
    refine ⟨v2, fun σ I L a P K Q lf cb => ?_⟩
    obtain ⟨I1, L1, e1, f1⟩ := hv σ I L a P K Q lf cb
    obtain ⟨I2, L2, e2, f2⟩ := h2 σ I1 L1 a P K Q lf (cb.q f1)
    exact ⟨I2, L2, (lp_inl e1).trans e2, f1.tr f2⟩
theorem a_count {j : Nat} (hj : j < 7) : Ans T N (mX11_count 100 (nI j)) := Ans.mk (nI (ctV T N 0 j)) fun σ I L a P K Q cb => by
  obtain ⟨I1, L1, e, f⟩ := c_count cb (show j < 8 by omega)
  have : ctV T N a j = ctV T N 0 j := by
    unfold ctV
    rcases (show j = 0 ∨ j = 1 ∨ j = 2 ∨ j = 3 ∨ j = 4 ∨ j = 5 ∨ j = 6 by omega) with rfl | rfl | rfl | rfl | rfl | rfl | rfl <;> rfl
  rw [this] at e
  exact ⟨I1, L1, e, f⟩
/-- a COUNT's elements -/
theorem a_l50 {k i : Nat} (hk' : k < N 18) (hi : i < T (26 + it N k 0)) : ∀ d y x, y + d = 3 → AnR T N (fun v h => (Sum.inl (v, nI (i + 1), h) : (Int32 × Int32 × Hp) ⊕ (Int32 × Hp))) (fun h => mL_numbers_l50 99 (nI k) x (nI i) (nI y) h) :=
  AnR.loop (f := fun s : (Int32 × Int32 × Hp) => mL_numbers_l50f 99 (nI k) (nI i) s.1 s.2.1 s.2.2) (fun x y h => (x, nI y, h)) 3 _
    (fun y x hy => ⟨31 * x + tel T N (T (31 + 4 * it N k 0 + i)) k y, fun σ I L a P K Q lf cb => by
      obtain ⟨I1, L1, e, f⟩ := c_element cb.1 hk' hi hy
      refine ⟨I1, L1, ?_, f⟩
      show mL_numbers_l50f 99 (nI k) (nI i) x (nI y) (hk σ I L) = _
      unfold mL_numbers_l50f
      rw [show (3 : Int32) = nI 3 from rfl, c_lt hy (by omega), gX lf, e, b2s, nI_1]⟩)
    (fun x => ⟨x, fun σ I L a P K Q lf cb => ⟨I, L, by
      show mL_numbers_l50f 99 (nI k) (nI i) x (nI 3) (hk σ I L) = _
      unfold mL_numbers_l50f
      rw [if_neg (by decide), nI_1]; rfl, FrC.rf⟩⟩)
theorem a_of {k j : Nat} (hk' : k < N 18) (hj : j < 11) : Ans T N (mX11_of 100 (nI k) (nI j)) := Ans.mk (nI (ofV T N k j)) fun σ I L a P K Q cb => c_of cb.1 hk' hj
theorem a_l34 {k : Nat} (hk' : k < N 18) : ∀ d i x, i + d = T (26 + it N k 0) → Ans T N (fun h => mL_numbers_l34 99 (nI k) x (nI i) h) :=
  AnR.loop (f := fun s : (Int32 × Int32 × Hp) => mL_numbers_l34f 99 (nI k) s.1 s.2.1 s.2.2) (fun x i h => (x, nI i, h)) _ _
    (fun i x hi => by
      obtain ⟨v, hv⟩ := a_l50 hk' hi 3 0 x rfl
      refine ⟨v, fun σ I L a P K Q lf cb => ?_⟩
      have hW := cb.1.2.1
      obtain ⟨a0, _⟩ := cb.1.2.2.1.2.2.2.2.1 k hk'
      have w2 := (hW.1.2.2.1)
      obtain ⟨_, _, b26, _⟩ := hW.2.2.1 _ a0
      obtain ⟨I1, L1, e1, f1⟩ := c_of cb.1 hk' (show 5 < 11 by omega)
      obtain ⟨I2, L2, e2, f2⟩ := hv σ I1 L1 a P K Q lf (cb.q f1)
      refine ⟨I2, L2, ?_, f1.tr f2⟩
      have e1 : mX11_of 100 (nI k) (5 : Int32) (hk σ I L) = some (nI (T (26 + it N k 0)), hk σ I1 L1) := e1
      show mL_numbers_l34f 99 (nI k) x (nI i) (hk σ I L) = _
      unfold mL_numbers_l34f
      rw [gX lf, e1, b2s, c_lt hi (by omega)]
      exact e2)
    (fun x => by
      refine ⟨31 * (31 * x + how3 (lft T N) (won T (it N k 0))) + nI (if 0 = 0 then pW T N k / Nat.gcd (aW T N) (pW T N k) else aW T N / Nat.gcd (aW T N) (pW T N k)), fun σ I L a P K Q lf cb => ?_⟩
      have hW := cb.1.2.1
      obtain ⟨a0, _⟩ := cb.1.2.2.1.2.2.2.2.1 k hk'
      obtain ⟨_, _, b26, _⟩ := hW.2.2.1 _ a0
      obtain ⟨I1, L1, e1, f1⟩ := c_of cb.1 hk' (show 5 < 11 by omega)
      obtain ⟨L2, e2, f2⟩ := c_judged (cb.q f1).1 hk'
      obtain ⟨L3, e3, f3⟩ := c_chance ((cb.q f1).q f2).1 hk' (show 0 < 2 by omega)
      refine ⟨_, _, ?_, (f1.tr f2).tr f3⟩
      have e1 : mX11_of 100 (nI k) (5 : Int32) (hk σ I L) = some (nI (T (26 + it N k 0)), hk σ I1 L1) := e1
      have e3 : mX11_chance 100 (nI k) (0 : Int32) (hk σ I1 L2) = _ := e3
      show mL_numbers_l34f 99 (nI k) x (nI (T (26 + it N k 0))) (hk σ I L) = _
      unfold mL_numbers_l34f
      rw [gX lf, e1, b2s, c_nlt (Nat.le_refl _) (by omega), gX lf, e2, b2s, gX lf, e3, b2s, xts])
theorem a_numbers {k : Nat} (hk' : k < N 18) : Ans T N (fun h => mL_numbers 99 (nI k) h) := by
  obtain ⟨v, hv⟩ := AnR.loop (T := T) (N := N) (f := fun s : (Int32 × Int32 × Hp) => mL_numbers_l5f 99 (nI k) s.1 s.2.1 s.2.2) (fun x i h => (x, nI i, h)) 11 (fun v h => (v, h))
    (fun i x hi => ⟨31 * x + nI (ofV T N k i), fun σ I L a P K Q lf cb => by
      obtain ⟨I1, L1, e1, f1⟩ := c_of cb.1 hk' hi
      refine ⟨I1, L1, ?_, f1⟩
      show mL_numbers_l5f 99 (nI k) x (nI i) (hk σ I L) = _
      unfold mL_numbers_l5f
      rw [show (11 : Int32) = nI 11 from rfl, c_lt hi (by omega), gX lf, e1, b2s, nI_1]⟩)
    (fun x => by
      obtain ⟨v, hv⟩ := a_l34 (T := T) hk' _ 0 x (Nat.zero_add _)
      refine ⟨v, fun σ I L a P K Q lf cb => ?_⟩
      obtain ⟨I1, L1, e1, f1⟩ := hv σ I L a P K Q lf cb
      refine ⟨I1, L1, ?_, f1⟩
      show mL_numbers_l5f 99 (nI k) x (nI 11) (hk σ I L) = _
      unfold mL_numbers_l5f
      have e1 : mL_numbers_l34 99 (nI k) x (0 : Int32) (hk σ I L) = some (v, hk σ I1 L1) := e1
      rw [if_neg (by decide), e1, xts]) 11 0 17 rfl
  refine ⟨v, fun σ I L a P K Q lf cb => ?_⟩
  obtain ⟨I1, L1, e1, f1⟩ := hv σ I L a P K Q lf cb
  refine ⟨I1, L1, ?_, f1⟩
  show mL_numbers 99 (nI k) (hk σ I L) = _
  unfold mL_numbers
  rw [if_pos (s99 lf)]
  exact e1
/-- the four of a fact -/
theorem a_l65 {g : Nat} (hg : g < T 1) : ∀ d y x, y + d = 4 → AnR T N (fun v h => (Sum.inl (v, nI (g + 1), h) : (Int32 × Int32 × Hp) ⊕ (Int32 × Hp))) (fun h => mL_digest_l65 99 x (nI g) (nI y) h)
  | 0, y, x, hy => ⟨x, fun σ I L a P K Q lf cb => ⟨I, L, by
      obtain rfl : y = 4 := by omega
      show lp (fun s : (Int32 × Int32) => mL_digest_l65f 99 (nI g) (hk σ I L) s.1 s.2) (x, nI 4) = _
      refine lp_inr ?_
      show mL_digest_l65f 99 (nI g) (hk σ I L) x (nI 4) = _
      unfold mL_digest_l65f
      rw [if_neg (by decide), nI_1]; rfl, FrC.rf⟩⟩
  | d + 1, y, x, hy => by
    obtain ⟨v, hv⟩ := a_l65 hg d (y + 1) (31 * x + faV T N g y) (by omega)
    refine ⟨v, fun σ I L a P K Q lf cb => ?_⟩
    obtain ⟨I1, L1, e1, f1⟩ := hv σ I L a P K Q lf cb
    refine ⟨I1, L1, ?_, f1⟩
    have e0 := c_fact cb.1 hg (show y < 4 by omega)
    have st : mL_digest_l65f 99 (nI g) (hk σ I L) x (nI y) = some (.inl (31 * x + faV T N g y, nI (y + 1))) := by
      unfold mL_digest_l65f
      rw [show (4 : Int32) = nI 4 from rfl, c_lt (show y < 4 by omega) (by omega), gX lf, e0, obind, nI_1]
    exact (lp_inl (f := fun s : (Int32 × Int32) => mL_digest_l65f 99 (nI g) (hk σ I L) s.1 s.2) (s := (x, nI y)) st).trans e1
theorem a_l99 : ∀ d i x, i + d = N 18 → Ans T N (fun h => mL_digest_l99 99 x (nI i) h) :=
  AnR.loop (f := fun s : (Int32 × Int32 × Hp) => mL_digest_l99f 99 s.1 s.2.1 s.2.2) (fun x i h => (x, nI i, h)) _ _
    (fun i x hi => by
      obtain ⟨v, hv⟩ := a_numbers (T := T) hi
      refine ⟨31 * x + v, fun σ I L a P K Q lf cb => ?_⟩
      have h18 := cb.2.1.1.2.2.2.1.2
      obtain ⟨I1, L1, e1, f1⟩ := c_count cb (show 2 < 8 by omega)
      obtain ⟨I2, L2, e2, f2⟩ := hv σ I1 L1 a P K Q lf (cb.q f1)
      refine ⟨I2, L2, ?_, f1.tr f2⟩
      have e1 : mX11_count 100 (2 : Int32) (hk σ I L) = some (nI (N 18), hk σ I1 L1) := e1
      show mL_digest_l99f 99 x (nI i) (hk σ I L) = _
      unfold mL_digest_l99f
      have e2 : mL_numbers 99 (nI i) (hk σ I1 L1) = some (v, hk σ I2 L2) := e2
      rw [gX lf, e1, b2s, c_lt hi (by omega), e2, b2s, nI_1])
    (fun x => by
      refine ⟨31 * x + nI (cntB (isF T N) 256), fun σ I L a P K Q lf cb => ?_⟩
      have h18 := cb.2.1.1.2.2.2.1.2
      obtain ⟨I1, L1, e1, f1⟩ := c_count cb (show 2 < 8 by omega)
      obtain ⟨I2, L2, e2, f2⟩ := c_outcomes (cb.q f1).1
      refine ⟨_, _, ?_, f1.tr f2⟩
      have e1 : mX11_count 100 (2 : Int32) (hk σ I L) = some (nI (N 18), hk σ I1 L1) := e1
      show mL_digest_l99f 99 x (nI (N 18)) (hk σ I L) = _
      unfold mL_digest_l99f
      rw [gX lf, e1, b2s, c_nlt (Nat.le_refl _) (by omega), gX lf, e2, b2s, xts])
theorem a_l51 : ∀ d i x, i + d = T 1 → Ans T N (fun h => mL_digest_l51 99 x (nI i) h) :=
  AnR.loop (f := fun s : (Int32 × Int32 × Hp) => mL_digest_l51f 99 s.1 s.2.1 s.2.2) (fun x i h => (x, nI i, h)) _ _
    (fun i x hi => by
      obtain ⟨v, hv⟩ := a_l65 (N := N) hi 4 0 x rfl
      refine ⟨v, fun σ I L a P K Q lf cb => ?_⟩
      have w1 := cb.1.2.1.1.2.1
      obtain ⟨I1, L1, e1, f1⟩ := c_count cb (show 1 < 8 by omega)
      obtain ⟨I2, L2, e2, f2⟩ := hv σ I1 L1 a P K Q lf (cb.q f1)
      refine ⟨I2, L2, ?_, f1.tr f2⟩
      have e1 : mX11_count 100 (1 : Int32) (hk σ I L) = some (nI (T 1), hk σ I1 L1) := e1
      show mL_digest_l51f 99 x (nI i) (hk σ I L) = _
      unfold mL_digest_l51f
      rw [gX lf, e1, b2s, c_lt hi (by omega)]
      exact e2)
    (fun x => by
      obtain ⟨v, hv⟩ := a_l99 (T := T) (N := N) _ 0 x (Nat.zero_add _)
      refine ⟨v, fun σ I L a P K Q lf cb => ?_⟩
      have w1 := cb.1.2.1.1.2.1
      obtain ⟨I1, L1, e1, f1⟩ := c_count cb (show 1 < 8 by omega)
      obtain ⟨I2, L2, e2, f2⟩ := hv σ I1 L1 a P K Q lf (cb.q f1)
      refine ⟨I2, L2, ?_, f1.tr f2⟩
      have e1 : mX11_count 100 (1 : Int32) (hk σ I L) = some (nI (T 1), hk σ I1 L1) := e1
      have e2 : mL_digest_l99 99 x (0 : Int32) (hk σ I1 L1) = some (v, hk σ I2 L2) := e2
      show mL_digest_l51f 99 x (nI (T 1)) (hk σ I L) = _
      unfold mL_digest_l51f
      rw [gX lf, e1, b2s, c_nlt (Nat.le_refl _) (by omega), e2, xts])
theorem a_l23 : ∀ d i x, i + d = 7 → Ans T N (fun h => mL_digest_l23 99 x (nI i) h) :=
  AnR.loop (f := fun s : (Int32 × Int32 × Hp) => mL_digest_l23f 99 s.1 s.2.1 s.2.2) (fun x i h => (x, nI i, h)) _ _
    (fun i x hi => by
      obtain ⟨v, hv⟩ := a_count (T := T) (N := N) hi
      refine ⟨31 * x + v, fun σ I L a P K Q lf cb => ?_⟩
      obtain ⟨I1, L1, e1, f1⟩ := hv σ I L a P K Q lf cb
      refine ⟨I1, L1, ?_, f1⟩
      show mL_digest_l23f 99 x (nI i) (hk σ I L) = _
      unfold mL_digest_l23f
      rw [show (7 : Int32) = nI 7 from rfl, c_lt hi (by omega), gX lf, e1, b2s, nI_1])
    (fun x => by
      obtain ⟨v, hv⟩ := a_l51 (T := T) (N := N) _ 0 x (Nat.zero_add _)
      refine ⟨v, fun σ I L a P K Q lf cb => ?_⟩
      obtain ⟨I1, L1, e1, f1⟩ := hv σ I L a P K Q lf cb
      refine ⟨I1, L1, ?_, f1⟩
      have e1 : mL_digest_l51 99 x (0 : Int32) (hk σ I L) = some (v, hk σ I1 L1) := e1
      show mL_digest_l23f 99 x (nI 7) (hk σ I L) = _
      unfold mL_digest_l23f
      rw [if_neg (by decide), e1, xts])
/-- the digest is decided by what is told and what is now -/
theorem a_digest : Ans T N (fun h => mL_digest 99 h) := by
  by_cases hx : ∃ σ I L a P K Q, LF σ ∧ CB σ I L T N a P K Q
  · obtain ⟨σ0, I0, L0, a0, P0, K0, Q0, lf0, cb0⟩ := hx
    obtain ⟨l, g, c, _, _, hfo, _, _⟩ := c_award cb0.1 (show 1 < 3 by omega)
    obtain ⟨v, hv⟩ := a_l23 (T := T) (N := N) 7 0 (31 * nI (cntB (lft T N) 256) + nI g) rfl
    refine ⟨v, fun σ I L a P K Q lf cb => ?_⟩
    obtain ⟨L1, e1, f1⟩ := c_worlds1 cb.1
    obtain ⟨l', g', c', I2, L2, hfo', e2, f2⟩ := c_award (cb.q f1).1 (show 1 < 3 by omega)
    rw [hfo] at hfo'
    obtain ⟨rfl, rfl, rfl⟩ : l = l' ∧ g = g' ∧ c = c' := by
      have := Option.some.inj hfo'
      exact ⟨congrArg (fun z => z.1) this, congrArg (fun z => z.2.1) this, congrArg (fun z => z.2.2) this⟩
    obtain ⟨I3, L3, e3, f3⟩ := hv σ I2 L2 a P K Q lf ((cb.q f1).q f2)
    refine ⟨I3, L3, ?_, (f1.tr f2).tr f3⟩
    have e2 : mX11_award 100 (1 : Int32) (hk σ I L1) = some (nI g, hk σ I2 L2) := e2
    have e3 : mL_digest_l23 99 (31 * nI (cntB (lft T N) 256) + nI g) (0 : Int32) (hk σ I2 L2) = some (v, hk σ I3 L3) := e3
    show mL_digest 99 (hk σ I L) = _
    unfold mL_digest
    rw [if_pos (s99 lf), gX lf, e1, b2s, gX lf, e2, b2s, e3]
  · exact ⟨0, fun σ I L a P K Q lf cb => absurd ⟨σ, I, L, a, P, K, Q, lf, cb⟩ hx⟩
noncomputable def dig (T N : Nat → Nat) : Int32 := Classical.choose (a_digest (T := T) (N := N))
/-- digest -/
theorem l_digest (lf : LF σ) (cb : CB σ I L T N a P K Q) : ∃ I1 L1, mL_digest 99 (hk σ I L) = some (dig T N, hk σ I1 L1) ∧ FrC I L I1 L1 :=
  Classical.choose_spec (a_digest (T := T) (N := N)) σ I L a P K Q lf cb
end E1
