section Same
/-! which COUNTS are one, when two more are told the same -/
section Uni
variable {R R' : Nat → Nat → Bool}
theorem rea_tr {m b c : Nat} (h2 : rea R m b c = true) : ∀ (n : Nat) {a : Nat}, rea R n a b = true → rea R (n + m) a c = true
  | 0, a, h => by rw [of_decide_eq_true h, Nat.zero_add]; exact h2
  | n + 1, a, h => by
    rcases rea_inv h with h | ⟨d, hd, h1, h3⟩
    · exact rea_mono (by omega) (rea_tr h2 n h)
    · have := rea_cons hd h1 (rea_tr h2 n h3)
      exact rea_mono (by omega) this
theorem rea_sy (hs : ∀ a c, R a c = true → R c a = true) : ∀ (n : Nat) {a b : Nat}, a < 8 → rea R n a b = true → ∃ m, rea R m b a = true
  | 0, a, b, _, h => ⟨0, by rw [of_decide_eq_true h]; exact rea_rf _ _⟩
  | n + 1, a, b, ha, h => by
    rcases rea_inv h with h | ⟨d, hd, h1, h3⟩
    · exact rea_sy hs n ha h
    · obtain ⟨m, hm⟩ := rea_sy hs n hd h3
      exact ⟨m + 1, rea_tr (rea_cons (n := 0) ha (hs _ _ h1) (rea_rf _ _)) m hm⟩
theorem fz_ed (hs : ∀ a c, R a c = true → R c a = true) {a c : Nat} (ha : a < 8) (hc : c < 8) (h : R a c = true) : fz R a = fz R c := by
  have key : ∀ a c, a < 8 → c < 8 → R a c = true → fz R a ≤ fz R c := fun a c ha hc h => by
    obtain ⟨h1, h2, h3⟩ := fz_spec (R := R) ha
    obtain ⟨g1, g2, g3⟩ := fz_spec (R := R) hc
    rcases Nat.lt_or_ge (fz R c) (fz R a) with q | q
    · have := h3 _ q
      rw [rea_8 ha (rea_cons hc h g2)] at this
      cases this
    · exact q
  have := key a c ha hc h
  have := key c a hc ha (hs a c h)
  omega
/-- the least of what is reached, once two more are joined -/
theorem fz_un {x y : Nat} (hs : ∀ a c, R a c = true → R c a = true) (hx : x < 8) (hy : y < 8) (hR : ∀ a c, a < 8 → c < 8 → (R' a c = true ↔ R a c = true ∨ (a = x ∧ c = y) ∨ (a = y ∧ c = x))) (hsub : ∀ a c, R a c = true → R' a c = true) {k : Nat} (hk' : k < 8) :
    fz R' k = if fz R k = fz R x ∨ fz R k = fz R y then min (fz R x) (fz R y) else fz R k := by
  refine fz_uniq (R := R') (F := fun k => if fz R k = fz R x ∨ fz R k = fz R y then min (fz R x) (fz R y) else fz R k) (fun a c ha hc h => ?_) (fun k hk' => ?_) hk'
  · show (if fz R a = fz R x ∨ fz R a = fz R y then min (fz R x) (fz R y) else fz R a) = (if fz R c = fz R x ∨ fz R c = fz R y then min (fz R x) (fz R y) else fz R c)
    rcases (hR a c ha hc).mp h with h | ⟨rfl, rfl⟩ | ⟨rfl, rfl⟩
    · rw [fz_ed hs ha hc h]
    · rw [if_pos (Or.inl rfl), if_pos (Or.inr rfl)]
    · rw [if_pos (Or.inr rfl), if_pos (Or.inl rfl)]
  · show rea R' 8 k (if fz R k = fz R x ∨ fz R k = fz R y then min (fz R x) (fz R y) else fz R k) = true ∧ (if fz R k = fz R x ∨ fz R k = fz R y then min (fz R x) (fz R y) else fz R k) ≤ k
    obtain ⟨h1, h2, h3⟩ := fz_spec (R := R) hk'
    obtain ⟨x1, x2, x3⟩ := fz_spec (R := R) hx
    obtain ⟨y1, y2, y3⟩ := fz_spec (R := R) hy
    have up : ∀ {n a b : Nat}, rea R n a b = true → rea R' n a b = true := fun {n a b} h => rea_sub hsub n a b h
    have exy : rea R' 1 x y = true := rea_cons (n := 0) hy ((hR x y hx hy).mpr (Or.inr (Or.inl ⟨rfl, rfl⟩))) (rea_rf _ _)
    have eyx : rea R' 1 y x = true := rea_cons (n := 0) hx ((hR y x hy hx).mpr (Or.inr (Or.inr ⟨rfl, rfl⟩))) (rea_rf _ _)
    obtain ⟨mx, sx⟩ := rea_sy hs 8 hx x2
    obtain ⟨my, sy⟩ := rea_sy hs 8 hy y2
    by_cases q : fz R k = fz R x ∨ fz R k = fz R y
    · rw [if_pos q]
      refine ⟨?_, by have := Nat.min_le_left (fz R x) (fz R y); have := Nat.min_le_right (fz R x) (fz R y); omega⟩
      rw [Nat.min_def]
      rcases q with q | q
      · rw [q] at h2
        split
        · exact up h2
        · exact rea_8 hk' (rea_tr (rea_tr (rea_tr (up y2) 1 exy) mx (up sx)) 8 (up h2))
      · rw [q] at h2
        split
        · exact rea_8 hk' (rea_tr (rea_tr (rea_tr (up x2) 1 eyx) my (up sy)) 8 (up h2))
        · exact up h2
    · rw [if_neg q]
      exact ⟨up h2, h1⟩
end Uni
variable {σ τ : Sg} {I I' J J' I1 I2 I3 Ja : Nat → Nat → Int32} {L L' M M' L1 L2 : Nat → Nat → Int64} {X : Nat → Nat} {n m i i2 la off t1 t2 fl pl dp h0 N kk lim s : Nat} {W : Nat → List Nat} {T T' : Nat → Nat}
/-- the class joins two -/
theorem unite_ok {F : Nat → Nat} {a b t2 : Nat} (hla : isLa la) (h2 : I la 2 = nI t2) (ht : t2 ≤ 5) (hF : ∀ k, k < t2 → I (la + 6) k = nI (F k) ∧ F k < 8) (ha : a < 8) (hb : b < 8) :
    ∃ r, mX1_unite la (nI a) (nI b) (hk σ I L) = some (hk σ (rowUp I (la + 6) r) L) ∧ ∀ k, k < t2 → r k = nI (if F k = a ∨ F k = b then min a b else F k) := by
  have sl : (hpS (hk σ I L) la).1 = 2 := by rw [hpS_hk, SH_la0 hla]
  have h0 : hk σ I L = hk σ (rowUp I (la + 6) (I (la + 6))) L := by rw [rowUp_id]
  unfold mX1_unite mX1_unite_l2
  rw [if_pos sl, h0]
  obtain ⟨o, e, r, rfl, hr⟩ := lp_inv (f := fun s : Int32 × Hp => mX1_unite_l2f la (nI a) (nI b) s.1 s.2) t2 (fun i st => ∃ r, st = (nI i, hk σ (rowUp I (la + 6) r) L) ∧ ∀ k, r k = if k < i then nI (if F k = a ∨ F k = b then min a b else F k) else I (la + 6) k)
    (fun o => ∃ r, o = hk σ (rowUp I (la + 6) r) L ∧ ∀ k, k < t2 → r k = nI (if F k = a ∨ F k = b then min a b else F k))
    (fun i st hi hQ => by
      obtain ⟨r, rfl, hr⟩ := hQ
      obtain ⟨f1, f2⟩ := hF i hi
      have ri : r i = nI (F i) := by rw [hr, if_neg (by omega), f1]
      have at6 : mX11_at (la + 6) (nI i) (hk σ (rowUp I (la + 6) r) L) = some (nI (F i)) := by rw [at_r (SH_la6 hla) (by omega) (by omega), rowUp_same, ri]
      have st : mX1_unite_b34 la (nI a) (nI b) (nI i) (hk σ (rowUp I (la + 6) r) L) = some (.inl (nI (i + 1), hk σ (rowUp I (la + 6) (updA r i (nI (min a b)))) L)) := by
        unfold mX1_unite_b34 mX1_unite_b47
        rw [gR_la hla, obind, RF_la_11 σ hla, min_d (by omega) (by omega), put_nI (n := 5) (by rw [hpS_hk]; exact SH_la6 hla) (by omega) (by omega), obind, setI_hk, hpI_hk', rowUp_same, rowUp_two, nI_1]
      by_cases q : F i = a ∨ F i = b
      · refine ⟨_, ?_, updA r i (nI (min a b)), rfl, fun k => ?_⟩
        · show mX1_unite_l2f la (nI a) (nI b) (nI i) (hk σ (rowUp I (la + 6) r) L) = _
          unfold mX1_unite_l2f
          rw [gI_la hla, obind, rowUp_ne _ _ (by omega), h2, c_lt hi (by omega), gR_la hla, obind, RF_la_11 σ hla, at6, obind, obind, at6, obind, c_eqd (by omega) (by omega), c_eqd (by omega) (by omega), st]
          by_cases qa : F i = a
          · rw [if_pos qa]
          · rw [if_neg qa, if_pos (by omega)]
        · rw [updA_at, hr]
          by_cases e : k = i
          · subst e; rw [if_pos rfl, if_pos (by omega), if_pos q]
          · rw [if_neg e]
            by_cases e2 : k < i
            · rw [if_pos e2, if_pos (show k < i + 1 by omega)]
            · rw [if_neg e2, if_neg (show ¬ k < i + 1 by omega)]
      · refine ⟨_, ?_, r, rfl, fun k => ?_⟩
        · show mX1_unite_l2f la (nI a) (nI b) (nI i) (hk σ (rowUp I (la + 6) r) L) = some (.inl (nI (i + 1), hk σ (rowUp I (la + 6) r) L))
          unfold mX1_unite_l2f mX1_unite_b47
          rw [gI_la hla, obind, rowUp_ne _ _ (by omega), h2, c_lt hi (by omega), gR_la hla, obind, RF_la_11 σ hla, at6, obind, obind, at6, obind, c_eqd (by omega) (by omega), c_eqd (by omega) (by omega), if_neg (by omega), if_neg (by omega), nI_1]
        · rw [hr]
          by_cases e : k = i
          · subst e; rw [if_neg (by omega), if_pos (by omega), if_neg q, f1]
          · by_cases e2 : k < i
            · rw [if_pos e2, if_pos (show k < i + 1 by omega)]
            · rw [if_neg e2, if_neg (show ¬ k < i + 1 by omega)])
    (fun st hQ => by
      obtain ⟨r, rfl, hr⟩ := hQ
      refine ⟨_, ?_, r, rfl, fun k hk' => by rw [hr, if_pos hk']⟩
      show mX1_unite_l2f la (nI a) (nI b) (nI t2) (hk σ (rowUp I (la + 6) r) L) = _
      unfold mX1_unite_l2f
      rw [gI_la hla, obind, rowUp_ne _ _ (by omega), h2, c_nlt (Nat.le_refl _) (by omega), xts])
    (s := ((0 : Int32), hk σ (rowUp I (la + 6) (I (la + 6))) L)) ⟨_, rfl, fun k => by rw [if_neg (Nat.not_lt_zero _)]⟩
  exact ⟨r, e, hr⟩
theorem smB_sy (T : Nat → Nat) (a c : Nat) (h : smB T a c = true) : smB T c a = true := by
  unfold smB at h ⊢
  revert h
  cases decide (a < T 2) <;> cases decide (c < T 2) <;> cases (T (61 + a)).testBit c <;> cases (T (61 + c)).testBit a <;> decide
theorem fst0_le8 (T : Nat → Nat) {k : Nat} (hk' : k < 8) : fst0 T k < 8 := by
  have := (fz_spec (R := smB T) hk').1
  unfold fst0
  omega
/-- two COUNTS more are the same -/
theorem fst0_un {x y : Nat} (hx : x < T 2) (hy : y < T 2) (h5 : T 2 ≤ 5) (hne : x ≠ y) (h2 : T' 2 = T 2) (h : ∀ k, k < T 2 → T' (61 + k) = if k = y then T (61 + y) ||| 2 ^ x else if k = x then T (61 + x) ||| 2 ^ y else T (61 + k)) {k : Nat} (hk' : k < 8) :
    fst0 T' k = if fst0 T k = fst0 T x ∨ fst0 T k = fst0 T y then min (fst0 T x) (fst0 T y) else fst0 T k := by
  have hb : ∀ a c, a < T 2 → c < T 2 → (T' (61 + a)).testBit c = ((T (61 + a)).testBit c || (decide (a = y ∧ c = x) || decide (a = x ∧ c = y))) := fun a c ha hc => by
    rw [h a ha]
    by_cases e : a = y
    · subst e
      rw [if_pos rfl, Nat.testBit_or, Nat.testBit_two_pow]
      congr 1
      by_cases e2 : x = c
      · subst e2; simp
      · have : ¬ (a = x ∧ c = a) := fun z => by omega
        simp [Ne.symm e2, e2, this]
    · rw [if_neg e]
      by_cases e2 : a = x
      · subst e2
        rw [if_pos rfl, Nat.testBit_or, Nat.testBit_two_pow]
        congr 1
        by_cases e3 : y = c
        · subst e3; simp
        · simp [e, Ne.symm e3, e3]
      · rw [if_neg e2]; simp [e, e2]
  have hm : ∀ a c, smB T' a c = (smB T a c || (decide (a = x ∧ c = y) || decide (a = y ∧ c = x))) := fun a c => by
    unfold smB
    rw [h2]
    by_cases ha : a < T 2
    · by_cases hc : c < T 2
      · rw [hb a c ha hc, hb c a hc ha, decide_eq_true ha, decide_eq_true hc]
        have e1 : decide (c = y ∧ a = x) = decide (a = x ∧ c = y) := decide_eq_decide.mpr (by omega)
        have e2 : decide (c = x ∧ a = y) = decide (a = y ∧ c = x) := decide_eq_decide.mpr (by omega)
        rw [e1, e2]
        cases decide (a = y ∧ c = x) <;> cases decide (a = x ∧ c = y) <;> cases (T (61 + a)).testBit c <;> cases (T (61 + c)).testBit a <;> rfl
      · rw [decide_eq_false hc, decide_eq_false (show ¬ (a = x ∧ c = y) by omega), decide_eq_false (show ¬ (a = y ∧ c = x) by omega)]
        simp
    · rw [decide_eq_false ha, decide_eq_false (show ¬ (a = x ∧ c = y) by omega), decide_eq_false (show ¬ (a = y ∧ c = x) by omega)]
      simp
  unfold fst0
  refine fz_un (R := smB T) (R' := smB T') (smB_sy T) (by omega) (by omega) (fun a c _ _ => ?_) (fun a c h => by rw [hm, h]; rfl) hk'
  rw [hm]
  simp
end Same
