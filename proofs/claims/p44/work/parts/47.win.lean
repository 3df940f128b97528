section Win
variable {σ : Sg} {I I' I1 I2 : Nat → Nat → Int32} {L L' L1 L2 : Nat → Nat → Int64}
/-- a fold over the worlds with a property -/
def fo {S : Type} (st : S → Nat → S) (p : Nat → Bool) (z : S) : Nat → S
  | 0 => z
  | n + 1 => if p n = true then st (fo st p z n) n else fo st p z n
theorem foS {S : Type} (st : S → Nat → S) (p : Nat → Bool) (z : S) (n : Nat) : fo st p z (n + 1) = if p n = true then st (fo st p z n) n else fo st p z n := rfl
theorem fo_same {S : Type} {st : S → Nat → S} {p : Nat → Bool} {z : S} : ∀ {n m : Nat}, n ≤ m → cntB p n = cntB p m → fo st p z n = fo st p z m := by
  intro n m hnm
  obtain ⟨d, rfl⟩ := Nat.le.dest hnm
  induction d with
  | zero => intro _; rfl
  | succ d ih =>
    intro h
    have h1 : cntB p (n + d + 1) = cntB p (n + d) + (if p (n + d) = true then 1 else 0) := rfl
    have h2 := cntB_mono p (show n ≤ n + d by omega)
    have h3 : cntB p (n + (d + 1)) = cntB p (n + d + 1) := rfl
    by_cases hp : p (n + d) = true
    · rw [if_pos hp] at h1; omega
    · rw [if_neg hp] at h1
      rw [ih (by omega) (by omega), show n + (d + 1) = (n + d) + 1 from rfl, foS, if_neg hp]
/-- the i-th world with a property -/
def wi (p : Nat → Bool) (n i : Nat) : Nat := match fstB (fun w => p w && decide (cntB p w = i)) n with
  | some w => w
  | none => n
theorem wi_ok {p : Nat → Bool} {n i : Nat} (h : i ≤ cntB p n) : cntB p (wi p n i) = i ∧ wi p n i ≤ n ∧ (i < cntB p n → wi p n i < n ∧ p (wi p n i) = true) := by
  unfold wi
  cases e : fstB (fun w => p w && decide (cntB p w = i)) n with
  | some w =>
    obtain ⟨h1, h2, _⟩ := fstB_some.mp e
    rw [Bool.and_eq_true] at h2
    exact ⟨of_decide_eq_true h2.2, Nat.le_of_lt h1, fun _ => ⟨h1, h2.1⟩⟩
  | none =>
    have h1 := fstB_none.mp e
    have key : cntB p n ≤ i := ith_none.mp e
    exact ⟨by show cntB p n = i; omega, Nat.le_refl _, fun z => by omega⟩
theorem fo_wi {S : Type} {st : S → Nat → S} {p : Nat → Bool} {z : S} {n i : Nat} (h : i < cntB p n) : fo st p z (wi p n (i + 1)) = st (fo st p z (wi p n i)) (wi p n i) := by
  obtain ⟨a1, a2, a3⟩ := wi_ok (p := p) (n := n) (i := i) (by omega)
  obtain ⟨b1, b2, _⟩ := wi_ok (p := p) (n := n) (i := i + 1) (by omega)
  obtain ⟨a3, a4⟩ := a3 h
  have c1 : cntB p (wi p n i + 1) = i + 1 := by rw [cntS, a1, if_pos a4]
  have e : fo st p z (wi p n (i + 1)) = fo st p z (wi p n i + 1) := by
    rcases Nat.le_total (wi p n (i + 1)) (wi p n i + 1) with q | q
    · exact fo_same q (by omega)
    · exact (fo_same q (by omega)).symm
  rw [e, foS, if_pos a4]
theorem fo_w0 {S : Type} {st : S → Nat → S} {p : Nat → Bool} {z : S} {n : Nat} : fo st p z (wi p n 0) = z := by
  obtain ⟨a1, _⟩ := wi_ok (p := p) (n := n) (i := 0) (by omega)
  exact (fo_same (st := st) (z := z) (Nat.zero_le (wi p n 0)) (by rw [a1]; rfl)).symm
theorem fo_wn {S : Type} {st : S → Nat → S} {p : Nat → Bool} {z : S} {n : Nat} : fo st p z (wi p n (cntB p n)) = fo st p z n := by
  obtain ⟨a1, a2, _⟩ := wi_ok (p := p) (n := n) (i := cntB p n) (Nat.le_refl _)
  exact fo_same a2 a1
/-- what comes again changes nothing -/
theorem fo_inc {S : Type} {st : S → Nat → S} {p : Nat → Bool} {z : S} {Inc : S → Nat → Prop} (h1 : ∀ s w, Inc (st s w) w) (h2 : ∀ s v w, Inc s v → Inc (st s w) v) : ∀ {n v : Nat}, v < n → p v = true → Inc (fo st p z n) v
  | 0, v, hv, _ => absurd hv (Nat.not_lt_zero _)
  | n + 1, v, hv, hp => by
    rw [foS]
    by_cases e : v = n
    · subst e; rw [if_pos hp]; exact h1 _ _
    · have ih := fo_inc (st := st) (p := p) (z := z) (Inc := Inc) h1 h2 (n := n) (v := v) (by omega) hp
      split
      · exact h2 _ _ _ ih
      · exact ih
theorem fo_lft {T N : Nat → Nat} {S : Type} {st : S → Nat → S} {z : S} {Inc : S → Nat → Prop} (h1 : ∀ s w, Inc (st s w) w) (h2 : ∀ s v w, Inc s v → Inc (st s w) v) (h3 : ∀ s v w, ws T N v = ws T N w → Inc s v → st s w = s) :
    ∀ n, fo st (lft T N) z n = fo st (isF T N) z n
  | 0 => rfl
  | n + 1 => by
    rw [foS, foS, fo_lft h1 h2 h3 n]
    cases hl : lft T N n
    · have : isF T N n = false := by unfold isF; rw [hl]; rfl
      rw [this]
    · rw [if_pos rfl]
      cases hF : isF T N n
      · rw [if_neg (by decide)]
        obtain ⟨v, hv, hv1, hv2⟩ := isF_ex (T := T) (N := N) (n := n) (w := n) (Nat.le_refl _) hl
        have hvn : v < n := by
          rcases Nat.lt_or_ge v n with q | q
          · exact q
          · have : v = n := by omega
            subst this; rw [hF] at hv1; cases hv1
        exact h3 _ v n hv2 (fo_inc h1 h2 hvn hv1)
      · rw [if_pos rfl]
/-- what a set of COUNTS is paid -/
def mxw (T N : Nat → Nat) (s a : Nat) : Nat → Nat
  | 0 => 0
  | n + 1 => if s.testBit n = true then (if fst0 T (it N n 0) = a then max (mxw T N s a n) (it N n 2) else mxw T N s a n) else mxw T N s a n
def awd (T N : Nat → Nat) (s : Nat) : Nat → Nat
  | 0 => 0
  | a + 1 => awd T N s a + mxw T N s a (N 18)
theorem mxw_le {T N : Nat → Nat} (hN : WN T N) (s a : Nat) : ∀ n, n ≤ N 18 → mxw T N s a n ≤ 999
  | 0, _ => by show 0 ≤ 999; omega
  | n + 1, h => by
    have ih := mxw_le hN s a n (by omega)
    have h2 := (hN.2.2.2.2.1 n (by omega)).2.2.1
    show (if s.testBit n = true then (if fst0 T (it N n 0) = a then max (mxw T N s a n) (it N n 2) else mxw T N s a n) else mxw T N s a n) ≤ 999
    split
    · split <;> omega
    · exact ih
theorem awd_le {T N : Nat → Nat} (hN : WN T N) (s : Nat) : ∀ n, awd T N s n ≤ n * 999
  | 0 => Nat.le_refl _
  | n + 1 => by
    have ih := awd_le hN s n
    have := mxw_le hN s n (N 18) (Nat.le_refl _)
    show awd T N s n + mxw T N s n (N 18) ≤ _
    omega
theorem fst0_lt {T N : Nat → Nat} (hW : WT T) (hN : WN T N) {k : Nat} (hk' : k < N 18) : fst0 T (it N k 0) < T 2 := by
  have c0 := (hN.2.2.2.2.1 k hk').1
  have w2 := hW.1.2.2.1
  have := (fz_spec (R := smB T) (show it N k 0 < 8 by omega)).1
  unfold fst0; omega
theorem awd_top {T N : Nat → Nat} (hW : WT T) (hN : WN T N) (s : Nat) : ∀ d, awd T N s (T 2 + d) = awd T N s (T 2)
  | 0 => rfl
  | d + 1 => by
    have z : ∀ n, n ≤ N 18 → mxw T N s (T 2 + d) n = 0 := by
      intro n
      induction n with
      | zero => intro _; rfl
      | succ n ih =>
        intro hn
        have := fst0_lt hW hN (show n < N 18 by omega)
        show (if s.testBit n = true then (if fst0 T (it N n 0) = T 2 + d then max (mxw T N s (T 2 + d) n) (it N n 2) else mxw T N s (T 2 + d) n) else mxw T N s (T 2 + d) n) = 0
        rw [ih (by omega), if_neg (show ¬ fst0 T (it N n 0) = T 2 + d by omega)]
        split <;> rfl
    show awd T N s (T 2 + d) + mxw T N s (T 2 + d) (N 18) = _
    rw [z (N 18) (Nat.le_refl _), awd_top hW hN s d]; rfl
def aw (T N : Nat → Nat) (s : Nat) : Nat := awd T N s (T 2)
theorem aw_m {T N : Nat → Nat} (hW : WT T) (hN : WN T N) (s : Nat) : awd T N s (N 18) = aw T N s := by
  have := hN.2.2.2.1.1
  obtain ⟨d, hd⟩ := Nat.le.dest this
  rw [← hd]; exact awd_top hW hN s d
theorem aw_le {T N : Nat → Nat} (hW : WT T) (hN : WN T N) (s : Nat) : aw T N s ≤ 4995 := by
  have := awd_le hN s (T 2)
  have w2 := hW.1.2.2.1
  have : T 2 * 999 ≤ 5 * 999 := Nat.mul_le_mul_right _ w2
  unfold aw; omega
theorem cawardOf_ok {T N : Nat → Nat} (h : CR σ I L T N) {s : Nat} (hs : s < 256) : mX11_awardOf 100 (nI s) (hk σ I L) = some (nI (aw T N s)) := by
  have hW := h.2.1
  have hN := h.2.2.1
  have h18 := (h.2.2.1.bkH hW).1
  have hla := h.1.1
  have hsa := h.1.2.1
  have hc := h.2.2.2.2.1.2.2.1
  have w2 := hW.1.2.2.1
  unfold mX11_awardOf mX11_awardOf_l4
  rw [if_pos s100]
  refine lp_traj (f := fun t : Int32 × Int32 => mX11_awardOf_l4f 100 (nI s) (hk σ I L) t.1 t.2) (T 2) (fun a => (nI (awd T N s a), nI a)) _ (fun a ha => ?_) ?_
  · show mX11_awardOf_l4f 100 (nI s) (hk σ I L) (nI (awd T N s a)) (nI a) = some (Sum.inl (nI (awd T N s a + mxw T N s a (N 18)), nI (a + 1)))
    unfold mX11_awardOf_l4f mX11_awardOf_l21
    rw [gLa, gI_la hla, obind, h.2.2.2.1.1.2.2.1, c_lt ha (by omega)]
    refine lp_traj (f := fun t : Int32 × Int32 => mX11_awardOf_l21f 100 (nI s) (nI (awd T N s a)) (nI a) (hk σ I L) t.1 t.2) (N 18) (fun k => (nI (mxw T N s a k), nI k)) _ (fun k hk' => ?_) ?_
    · show mX11_awardOf_l21f 100 (nI s) (nI (awd T N s a)) (nI a) (hk σ I L) (nI (mxw T N s a k)) (nI k) = some (Sum.inl (nI (if s.testBit k = true then (if fst0 T (it N k 0) = a then max (mxw T N s a k) (it N k 2) else mxw T N s a k) else mxw T N s a k), nI (k + 1)))
      have c0 := (h.2.2.1.2.2.2.2.1 k hk').1
      have c2 := (h.2.2.1.2.2.2.2.1 k hk').2.2.1
      have m9 := mxw_le hN s a k (by omega)
      have f5 := fst0_lt hW hN hk'
      unfold mX11_awardOf_l21f mX11_awardOf_b81
      rw [gSa, gI_st hsa, obind, hc, c_lt hk' (by omega), has_nI (by omega) (by omega), obind, bI_if0, gLa, gR_la hla, obind, RF_la_11 σ hla, ckind_ok h hk', obind, at_r (SH_la6 hla) (by omega) (by omega), obind, (h.2.2.2.1.2.2.1 _ c0).2.1, c_eqd (by omega) (by omega), gSa, gR_st hsa, obind, RF_st_10 σ hsa, at_r (SH_st2 hsa) (by omega) (by omega), obind, (h.itB hk').2.1, max_d (by omega) (by omega), nI_1]
      rcases Bool.eq_false_or_eq_true (s.testBit k) with e | e
      · rw [e, if_neg nTF, if_pos rfl]
        by_cases q : fst0 T (it N k 0) = a
        · rw [if_pos q, if_pos q]
        · rw [if_neg q, if_neg q]
      · rw [e, if_pos rfl, if_neg (by decide)]
    · show mX11_awardOf_l21f 100 (nI s) (nI (awd T N s a)) (nI a) (hk σ I L) (nI (mxw T N s a (N 18))) (nI (N 18)) = _
      unfold mX11_awardOf_l21f
      rw [gSa, gI_st hsa, obind, hc, c_nlt (Nat.le_refl _) (by omega), xts, nI_add, nI_1]
  · show mX11_awardOf_l4f 100 (nI s) (hk σ I L) (nI (awd T N s (T 2))) (nI (T 2)) = _
    unfold mX11_awardOf_l4f
    rw [gLa, gI_la hla, obind, h.2.2.2.1.1.2.2.1, c_nlt (Nat.le_refl _) (by omega), xts]; rfl
end Win
