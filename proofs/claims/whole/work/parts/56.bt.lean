section Bt
variable {σ : Sg} {I I' J I1 I2 : Nat → Nat → Int32} {L L' L1 L2 : Nat → Nat → Int64}
/-- the least over some -/
def mnf (g : Nat → Nat) (p : Nat → Bool) (z : Nat) : Nat → Nat
  | 0 => z
  | n + 1 => if p n = true then min (mnf g p z n) (g n) else mnf g p z n
theorem mnfS (g : Nat → Nat) (p : Nat → Bool) (z n : Nat) : mnf g p z (n + 1) = if p n = true then min (mnf g p z n) (g n) else mnf g p z n := rfl
theorem mnf_congr {g g' : Nat → Nat} {p p' : Nat → Bool} {z : Nat} : ∀ {n}, (∀ f, f < n → p f = p' f ∧ (p f = true → g f = g' f)) → mnf g p z n = mnf g' p' z n
  | 0, _ => rfl
  | n + 1, h => by
    obtain ⟨h1, h2⟩ := h n (by omega)
    rw [mnfS, mnfS, mnf_congr (n := n) fun f hf => h f (by omega), ← h1]
    by_cases q : p n = true
    · rw [if_pos q, if_pos q, h2 q]
    · rw [if_neg q, if_neg q]
theorem mnf_min {g : Nat → Nat} {p : Nat → Bool} {a z : Nat} : ∀ n, mnf g p (min a z) n = min a (mnf g p z n)
  | 0 => rfl
  | n + 1 => by
    rw [mnfS, mnfS, mnf_min n]
    split <;> omega
theorem mnf_le {g : Nat → Nat} {p : Nat → Bool} {z f : Nat} : ∀ {n}, f < n → p f = true → mnf g p z n ≤ g f
  | 0, h, _ => absurd h (Nat.not_lt_zero _)
  | n + 1, h, hp => by
    rw [mnfS]
    by_cases e : f = n
    · subst e; rw [if_pos hp]; exact Nat.min_le_right _ _
    · have ih := mnf_le (g := g) (p := p) (z := z) (f := f) (n := n) (by omega) hp
      split
      · omega
      · exact ih
theorem mnf_z {g : Nat → Nat} {p : Nat → Bool} {z : Nat} : ∀ n, mnf g p z n ≤ z
  | 0 => Nat.le_refl _
  | n + 1 => by
    have := mnf_z (g := g) (p := p) (z := z) n
    rw [mnfS]
    split <;> omega
theorem mnf_pos {g : Nat → Nat} {p : Nat → Bool} {z : Nat} (hz : 0 < z) (hg : ∀ f, 0 < g f) : ∀ n, 0 < mnf g p z n
  | 0 => hz
  | n + 1 => by
    have := mnf_pos (g := g) (p := p) hz hg n
    have := hg n
    rw [mnfS]
    split <;> omega
theorem mnf_gap {g : Nat → Nat} {p : Nat → Bool} {z n : Nat} : ∀ {m}, n ≤ m → (∀ f, n ≤ f → f < m → p f = false) → mnf g p z m = mnf g p z n := by
  intro m hnm
  obtain ⟨d, rfl⟩ := Nat.le.dest hnm
  induction d with
  | zero => intro _; rfl
  | succ d ih =>
    intro h
    rw [show n + (d + 1) = (n + d) + 1 from rfl, mnfS, h (n + d) (by omega) (by omega), if_neg (by decide)]
    exact ih (by omega) fun f h1 h2 => h f h1 (by omega)
def mix (T N : Nat → Nat) (k x : Nat) : Bool := decide (cn (lw T N k) (T 1) x ≠ 0) && decide (cn (lw T N k) (T 1) x ≠ cn (lft T N) (T 1) x)
def unk (N : Nat → Nat) (x f : Nat) : Bool := !(knF N).testBit f && decide (dg x f = 0)
/-- how many trials -/
def vt (T N : Nat → Nat) (k : Nat) : Nat → Nat → Nat
  | 0, _ => 0
  | m + 1, x => if mix T N k x = true then mnf (fun f => 1 + max (vt T N k m (x + 1 * 3 ^ f)) (vt T N k m (x + 2 * 3 ^ f))) (unk N x) 9 (T 1) else 0
theorem vt_st {T N : Nat → Nat} {k : Nat} : ∀ m m' x, x < 3 ^ T 1 → 3 ^ T 1 - x ≤ m → 3 ^ T 1 - x ≤ m' → vt T N k m x = vt T N k m' x
  | 0, m', x, h1, h2, h3 => by omega
  | m + 1, 0, x, h1, h2, h3 => by omega
  | m + 1, m' + 1, x, h1, h2, h3 => by
    show (if mix T N k x = true then mnf (fun f => 1 + max (vt T N k m (x + 1 * 3 ^ f)) (vt T N k m (x + 2 * 3 ^ f))) (unk N x) 9 (T 1) else 0) = (if mix T N k x = true then mnf (fun f => 1 + max (vt T N k m' (x + 1 * 3 ^ f)) (vt T N k m' (x + 2 * 3 ^ f))) (unk N x) 9 (T 1) else 0)
    split
    · refine mnf_congr fun f hf => ⟨rfl, fun hp => ?_⟩
      unfold unk at hp
      rw [Bool.and_eq_true] at hp
      have hd := of_decide_eq_true hp.2
      have p3 := p3_pos f
      have a1 := put_lt h1 hf hd (d := 1) (by omega)
      have a2 := put_lt h1 hf hd (d := 2) (by omega)
      rw [vt_st m m' (x + 1 * 3 ^ f) a1 (by omega) (by omega), vt_st m m' (x + 2 * 3 ^ f) a2 (by omega) (by omega)]
    · rfl
def btr (T N : Nat → Nat) (k x : Nat) : Nat := vt T N k (3 ^ T 1 - x) x
def gt (T N : Nat → Nat) (k x f : Nat) : Nat := 1 + max (btr T N k (x + 1 * 3 ^ f)) (btr T N k (x + 2 * 3 ^ f))
theorem btr_eq {T N : Nat → Nat} {k x : Nat} (hx : x < 3 ^ T 1) : btr T N k x = if mix T N k x = true then mnf (gt T N k x) (unk N x) 9 (T 1) else 0 := by
  unfold btr
  obtain ⟨m, hm⟩ : ∃ m, 3 ^ T 1 - x = m + 1 := ⟨3 ^ T 1 - x - 1, by omega⟩
  rw [hm]
  show (if mix T N k x = true then mnf (fun f => 1 + max (vt T N k m (x + 1 * 3 ^ f)) (vt T N k m (x + 2 * 3 ^ f))) (unk N x) 9 (T 1) else 0) = _
  split
  · refine mnf_congr fun f hf => ⟨rfl, fun hp => ?_⟩
    unfold unk at hp
    rw [Bool.and_eq_true] at hp
    have hd := of_decide_eq_true hp.2
    have p3 := p3_pos f
    have a1 := put_lt hx hf hd (d := 1) (by omega)
    have a2 := put_lt hx hf hd (d := 2) (by omega)
    unfold gt btr
    rw [vt_st m (3 ^ T 1 - (x + 1 * 3 ^ f)) (x + 1 * 3 ^ f) a1 (by omega) (by omega), vt_st m (3 ^ T 1 - (x + 2 * 3 ^ f)) (x + 2 * 3 ^ f) a2 (by omega) (by omega)]
  · rfl
theorem btr_le {T N : Nat → Nat} {k x : Nat} (hx : x < 3 ^ T 1) : btr T N k x ≤ 9 := by
  rw [btr_eq hx]
  split
  · exact mnf_z _
  · omega
theorem lw_le {T N : Nat → Nat} {k x : Nat} : cn (lw T N k) (T 1) x ≤ cn (lft T N) (T 1) x := cntB_leq fun w _ hw => by
  unfold lw at hw
  rw [Bool.and_eq_true, Bool.and_eq_true] at hw
  rw [hw.1.1, hw.2]; rfl
theorem btr_none {T N : Nat → Nat} {k x : Nat} (hx : x < 3 ^ T 1) (h : cn (lft T N) (T 1) x = 0) : btr T N k x = 0 := by
  have := lw_le (T := T) (N := N) (k := k) (x := x)
  rw [btr_eq hx, show mix T N k x = false by unfold mix; rw [show cn (lw T N k) (T 1) x = 0 by omega]; rfl, if_neg (by decide)]
/-- rows of the model that it reads here -/
def WW (T N : Nat → Nat) (k : Nat) (I : Nat → Nat → Int32) : Prop := ∀ x, x < 3 ^ T 1 → I 451 x = nI (cn (lft T N) (T 1) x) ∧ I 452 x = nI (cn (lw T N k) (T 1) x)
theorem triedBy_ok {T N : Nat → Nat} (h : MI I T N) (h3 : P3 I) {k : Nat} (hw : WW T N k I) {x f : Nat} (hx : x < 3 ^ T 1) (hf : f < T 1) (hd : dg x f = 0)
    (h1 : I 453 (x + 1 * 3 ^ f) = nI (btr T N k (x + 1 * 3 ^ f))) (h2 : I 453 (x + 2 * 3 ^ f) = nI (btr T N k (x + 2 * 3 ^ f))) : mX12_triedBy 433 (nI x) (nI f) (hk σ I L) = some (nI (gt T N k x f)) := by
  have w1 := h.2.2.1.1.2.1
  have hM := p3_8 w1
  have p3 := p3_pos f
  have s1 := put_lt hx hf hd (d := 1) (by omega)
  have s2 := put_lt hx hf hd (d := 2) (by omega)
  have b1 := btr_le (N := N) (k := k) s1
  have b2 := btr_le (N := N) (k := k) s2
  have step : ∀ d c, d < 3 → x + d * 3 ^ f < 3 ^ T 1 → I 453 (x + d * 3 ^ f) = nI (btr T N k (x + d * 3 ^ f)) → c ≤ 9 → mX12_triedBy_l5f 433 (nI x) (nI f) (hk σ I L) (nI c) (nI d) = some (.inl (nI (max c (btr T N k (x + d * 3 ^ f))), nI (d + 1))) := by
    intro d c hd3 hs hb hc
    have bb := btr_le (N := N) (k := k) hs
    have bc := cn_le (lft T N) (T 1) (x + d * 3 ^ f)
    unfold mX12_triedBy_l5f mX12_triedBy_b48
    rw [show (3 : Int32) = nI 3 from rfl, c_lt hd3 (by omega), ld3 h3 (by omega), obind, g451, obind, pk_mul, nI_add, ldI_ok (n := 6561) rfl (by omega) (by omega), obind, hpI_hk', (hw _ hs).1, g453, obind, ldI_ok (n := 6561) rfl (by omega) (by omega), obind, hpI_hk', hb, max_d (by omega) (by omega), nI_1]
    by_cases hz : 0 < cn (lft T N) (T 1) (x + d * 3 ^ f)
    · rw [if_pos (show (0 : Int32) < nI (cn (lft T N) (T 1) (x + d * 3 ^ f)) from nI_lt (a := 0) hz (by omega))]
    · rw [if_neg (show ¬ (0 : Int32) < nI (cn (lft T N) (T 1) (x + d * 3 ^ f)) from nI_nlt (a := 0) (by omega) (by omega)), btr_none hs (by omega), Nat.max_eq_left (Nat.zero_le _)]
  unfold mX12_triedBy mX12_triedBy_l5
  rw [if_pos s433]
  have e1 := step 1 0 (by omega) s1 h1 (by omega)
  have e2 := step 2 (max 0 (btr T N k (x + 1 * 3 ^ f))) (by omega) s2 h2 (by omega)
  rw [lp_inl (s := ((0 : Int32), (1 : Int32))) (t := (nI (max 0 (btr T N k (x + 1 * 3 ^ f))), nI 2)) e1, lp_inl (s := (nI (max 0 (btr T N k (x + 1 * 3 ^ f))), nI 2)) (t := (nI (max (max 0 (btr T N k (x + 1 * 3 ^ f))) (btr T N k (x + 2 * 3 ^ f))), nI 3)) e2]
  refine lp_inr ?_
  show mX12_triedBy_l5f 433 (nI x) (nI f) (hk σ I L) (nI (max (max 0 (btr T N k (x + 1 * 3 ^ f))) (btr T N k (x + 2 * 3 ^ f)))) (nI 3) = _
  unfold mX12_triedBy_l5f
  rw [if_neg (by decide), xts, show (1 : Int32) = nI 1 from rfl, nI_add, Nat.zero_max]; rfl
theorem misKnown_ok {T N : Nat → Nat} (h : MI I T N) {f : Nat} (hf : f < 8) : mX12_isKnown 433 (nI f) (hk σ I L) = some (bI ((knF N).testBit f)) := by
  have h4 := (h.2.2.2.1.1 f hf).1
  rw [isKnown_ok h.2.1 hf (by omega)]
  unfold knF
  rw [bs_bit, decide_eq_true hf, Bool.true_and]
/-- laysTrials -/
theorem laysTrials_ok {T N : Nat → Nat} (h : MI I T N) (h3 : P3 I) {k : Nat} (hw : WW T N k I) : ∃ r, mX12_laysTrials 433 (hk σ I L) = some (hk σ (rowUp I 453 r) L) ∧ ∀ x, x < 3 ^ T 1 → r x = nI (btr T N k x) := by
  have hW := h.2.2.1
  have w1 := hW.1.2.1
  have hM := p3_8 w1
  have mi : ∀ r, MI (rowUp I 453 r) T N := fun r => h.up (by omega) (by omega) (by omega)
  have pp : ∀ r, P3 (rowUp I 453 r) := fun r => h3.up r (by omega)
  have ww : ∀ r, WW T N k (rowUp I 453 r) := fun r x hx => by rw [rowUp_at, rowUp_at, if_neg (by decide), if_neg (by decide)]; exact hw x hx
  have inner : ∀ x r c, x < 3 ^ T 1 → (∀ y, x < y → y < 3 ^ T 1 → r y = nI (btr T N k y)) → (c = if mix T N k x = true then 9 else 0) →
      ∃ r', mX12_laysTrials_b52 433 (nI x) 453 (nI x) (nI c) (hk σ (rowUp I 453 r) L) = some (.inl (nI x + -1, hk σ (rowUp I 453 r') L)) ∧ ∀ y, x ≤ y → y < 3 ^ T 1 → r' y = nI (btr T N k y) := by
    intro x r c hx hr hc
    obtain ⟨u, eu, _, u2, u3, u4⟩ := muntold_ok (σ := σ) (L := L) (mi (updA r x (nI c))) (pp _) (x := x) (s := 0) (by omega) (Nat.zero_le _)
    unfold mX12_laysTrials_b52
    rw [stI_ok (n := 6561) rfl (by omega) (by omega), obind, setI_hk, rowUp_two, hpI_hk', rowUp_same, show (0 : Int32) = nI 0 from rfl, eu, obind]
    unfold mX12_laysTrials_l60
    have fin : ∀ c', c' = btr T N k x → ∀ y, x ≤ y → y < 3 ^ T 1 → (updA r x (nI c')) y = nI (btr T N k y) := by
      intro c' hc' y hy1 hy2
      rw [updA_at]
      by_cases e : y = x
      · subst e; rw [if_pos rfl, hc']
      · rw [if_neg e]; exact hr y (by omega) hy2
    have hb := btr_eq (N := N) (k := k) hx
    by_cases hm : mix T N k x = true
    · rw [if_pos hm] at hc hb
      have gpos : ∀ f, 0 < gt T N k x f := fun f => by unfold gt; omega
      obtain ⟨o, e, r', rfl, hr'⟩ := lp_invX (f := fun s : Int32 × Hp => mX12_laysTrials_l60f 433 (nI x) s.1 s.2) (T 1) (fun i st => ∃ u, st = (nI u, hk σ (rowUp I 453 (updA r x (nI (mnf (gt T N k x) (unk N x) 9 u)))) L) ∧ i ≤ u ∧ u ≤ T 1 ∧ (u < T 1 → dg x u = 0))
        (fun o => ∃ r', o = .inl (nI x + -1, hk σ (rowUp I 453 r') L) ∧ ∀ y, x ≤ y → y < 3 ^ T 1 → r' y = nI (btr T N k y))
        (fun i st hi hQ => by
          obtain ⟨u, rfl, hiu, hu, hu0⟩ := hQ
          show (∃ t, mX12_laysTrials_l60f 433 (nI x) (nI u) (hk σ (rowUp I 453 (updA r x (nI (mnf (gt T N k x) (unk N x) 9 u)))) L) = some (.inl t) ∧ _) ∨ ∃ o, mX12_laysTrials_l60f 433 (nI x) (nI u) (hk σ (rowUp I 453 (updA r x (nI (mnf (gt T N k x) (unk N x) 9 u)))) L) = some (.inr o) ∧ _
          unfold mX12_laysTrials_l60f mX12_laysTrials_b129
          rw [g434, ldT1 (mi _).1, obind]
          by_cases hut : u < T 1
          · have hd := hu0 hut
            have pc := mnf_pos (g := gt T N k x) (p := unk N x) (z := 9) (by omega) gpos u
            have zc := mnf_z (g := gt T N k x) (p := unk N x) (z := 9) u
            have p3 := p3_pos u
            have s1 := put_lt hx hut hd (d := 1) (by omega)
            have s2 := put_lt hx hut hd (d := 2) (by omega)
            have g9b : gt T N k x u ≤ 10 := by
              have := btr_le (N := N) (k := k) s1
              have := btr_le (N := N) (k := k) s2
              unfold gt; omega
            have tb := triedBy_ok (σ := σ) (L := L) (mi (updA r x (nI (mnf (gt T N k x) (unk N x) 9 u)))) (pp _) (ww _) hx hut hd (by rw [rowUp_same, updA_ne _ _ (by omega)]; exact hr _ (by omega) s1) (by rw [rowUp_same, updA_ne _ _ (by omega)]; exact hr _ (by omega) s2)
            have nxt : ∀ v, v = nI (mnf (gt T N k x) (unk N x) 9 (u + 1)) → ∃ t, mX12_laysTrials_b116 433 (nI x) (nI u) 453 (nI x) v (hk σ (rowUp I 453 (updA r x (nI (mnf (gt T N k x) (unk N x) 9 u)))) L) = some (.inl t) ∧ ∃ u', t = (nI u', hk σ (rowUp I 453 (updA r x (nI (mnf (gt T N k x) (unk N x) 9 u')))) L) ∧ i + 1 ≤ u' ∧ u' ≤ T 1 ∧ (u' < T 1 → dg x u' = 0) := by
              intro v hv
              obtain ⟨u', eu', a1, a2, a3, a4⟩ := muntold_ok (σ := σ) (L := L) (mi (updA r x v)) (pp _) (x := x) (s := u + 1) (by omega) (by omega)
              unfold mX12_laysTrials_b116
              rw [stI_ok (n := 6561) rfl (by omega) (by omega), obind, setI_hk, rowUp_two, hpI_hk', rowUp_same, updA_two, nI_1, eu', obind]
              refine ⟨_, rfl, u', ?_, by omega, a2, a4⟩
              rw [hv, mnf_gap a1 fun f f1 f2 => by unfold unk; rw [decide_eq_false (a3 f f1 f2), Bool.and_false]]
            refine Or.inl ?_
            rw [c_lt hut (by omega), g453, obind, ldI_ok (n := 6561) rfl (by omega) (by omega), obind, hpI_hk', rowUp_same, updA_same, if_pos (show (0 : Int32) < nI (mnf (gt T N k x) (unk N x) 9 u) from nI_lt (a := 0) pc (by omega)), obind, misKnown_ok (mi _) (by omega), obind, bI_if0, obind, ldI_ok (n := 6561) rfl (by omega) (by omega), obind, hpI_hk', rowUp_same, updA_same, tb, obind, min_d (by omega) (by omega), obind, ldI_ok (n := 6561) rfl (by omega) (by omega), obind, hpI_hk', rowUp_same, updA_same]
            rcases Bool.eq_false_or_eq_true ((knF N).testBit u) with q | q
            · rw [q, if_neg nTF]
              exact nxt _ (by rw [mnfS, show unk N x u = false by unfold unk; rw [q]; rfl, if_neg (by decide)])
            · rw [q, if_pos rfl]
              exact nxt _ (by rw [mnfS, show unk N x u = true by unfold unk; rw [q, decide_eq_true hd]; rfl, if_pos rfl])
          · have hue : u = T 1 := by omega
            subst hue
            refine Or.inr ?_
            rw [c_nlt (Nat.le_refl _) (by omega), xts]
            exact ⟨_, rfl, _, rfl, fin _ (by rw [hb])⟩)
        (fun st hQ => by
          obtain ⟨u, rfl, hiu, hu, hu0⟩ := hQ
          have hue : u = T 1 := by omega
          subst hue
          refine ⟨.inl (nI x + -1, hk σ (rowUp I 453 (updA r x (nI (mnf (gt T N k x) (unk N x) 9 (T 1))))) L), ?_, _, rfl, fin _ (by rw [hb])⟩
          show mX12_laysTrials_l60f 433 (nI x) (nI (T 1)) _ = _
          unfold mX12_laysTrials_l60f mX12_laysTrials_b129
          rw [g434, ldT1 (mi _).1, obind, c_nlt (Nat.le_refl _) (by omega), xts]) (i := 0) (s := (nI u, hk σ (rowUp I 453 (updA r x (nI c))) L)) (Nat.zero_le _)
        ⟨u, by rw [mnf_gap (n := 0) (Nat.zero_le u) fun f f1 f2 => by unfold unk; rw [decide_eq_false (u3 f f1 f2), Bool.and_false]]; rw [hc]; rfl, Nat.zero_le _, u2, u4⟩
      exact ⟨r', e, hr'⟩
    · rw [if_neg hm] at hc hb
      subst hc
      refine ⟨updA r x (nI 0), lp_inr ?_, fin 0 hb.symm⟩
      show mX12_laysTrials_l60f 433 (nI x) (nI u) (hk σ (rowUp I 453 (updA r x (nI 0))) L) = _
      unfold mX12_laysTrials_l60f mX12_laysTrials_b129
      rw [g434, ldT1 (mi _).1, obind, g453, obind, ldI_ok (n := 6561) rfl (by omega) (by omega), obind, hpI_hk', rowUp_same, updA_same, if_neg (show ¬ (0 : Int32) < nI 0 by decide), xts]
      split <;> rfl
  have one : ∀ x r, x < 3 ^ T 1 → (∀ y, x + 1 ≤ y → y < 3 ^ T 1 → r y = nI (btr T N k y)) → ∃ h', mX12_laysTrials_l13f 433 (nI x) (hk σ (rowUp I 453 r) L) = some (.inl (nI x + -1, h')) ∧ ∃ r', h' = hk σ (rowUp I 453 r') L ∧ ∀ y, x ≤ y → y < 3 ^ T 1 → r' y = nI (btr T N k y) := by
    intro x r hx hr
    have bl := cn_le (lft T N) (T 1) x
    have bw := cn_le (lw T N k) (T 1) x
    obtain ⟨w1, w2⟩ := ww r x hx
    have go : ∀ c, (c = if mix T N k x = true then 9 else 0) → ∃ h', mX12_laysTrials_b52 433 (nI x) 453 (nI x) (nI c) (hk σ (rowUp I 453 r) L) = some (.inl (nI x + -1, h')) ∧ ∃ r', h' = hk σ (rowUp I 453 r') L ∧ ∀ y, x ≤ y → y < 3 ^ T 1 → r' y = nI (btr T N k y) := fun c hc => by
      obtain ⟨r', e, hr'⟩ := inner x r c hx (fun y h1 h2 => hr y h1 h2) hc
      exact ⟨_, e, r', rfl, hr'⟩
    unfold mX12_laysTrials_l13f mX12_laysTrials_b46
    rw [if_neg (nI_pos (show x < 2 ^ 31 by omega)), g453, obind, g452, obind, ldI_ok (n := 6561) rfl (by omega) (by omega), obind, hpI_hk', w2, obind, ldI_ok (n := 6561) rfl (by omega) (by omega), obind, hpI_hk', w2, g451, obind, ldI_ok (n := 6561) rfl (by omega) (by omega), obind, hpI_hk', w1, c_0 (by omega), c_eqd (by omega) (by omega)]
    by_cases z : cn (lw T N k) (T 1) x = 0
    · rw [if_pos z]
      exact go 0 (by unfold mix; rw [z]; rfl)
    · rw [if_neg z]
      by_cases z2 : cn (lw T N k) (T 1) x = cn (lft T N) (T 1) x
      · rw [if_pos z2]
        exact go 0 (by unfold mix; rw [decide_eq_false (show ¬ cn (lw T N k) (T 1) x ≠ cn (lft T N) (T 1) x from fun q => q z2), Bool.and_false]; rfl)
      · rw [if_neg z2]
        exact go 9 (by unfold mix; rw [decide_eq_true z, decide_eq_true z2]; rfl)
  have hM0 := p3_pos (T 1)
  unfold mX12_laysTrials mX12_laysTrials_l13
  rw [if_pos s433, g434, ldT1 h.1, obind, ld3 h3 (by omega), obind]
  obtain ⟨o, e, r', rfl, hr'⟩ := lp_dn (f := fun s : Int32 × Hp => mX12_laysTrials_l13f 433 s.1 s.2) (3 ^ T 1) (fun m h => ∃ r, h = hk σ (rowUp I 453 r) L ∧ ∀ y, m ≤ y → y < 3 ^ T 1 → r y = nI (btr T N k y))
    (fun o => ∃ r, o = hk σ (rowUp I 453 r) L ∧ ∀ y, 0 ≤ y → y < 3 ^ T 1 → r y = nI (btr T N k y))
    (fun x h hx hQ => by
      obtain ⟨r, rfl, hr⟩ := hQ
      exact one x r hx hr)
    (fun h hQ => by
      obtain ⟨r, rfl, hr⟩ := hQ
      refine ⟨_, ?_, r, rfl, hr⟩
      show mX12_laysTrials_l13f 433 (-1) (hk σ (rowUp I 453 r) L) = _
      unfold mX12_laysTrials_l13f
      rw [if_pos (by decide), xts]) (h := hk σ (rowUp I 453 (I 453)) L) ⟨I 453, rfl, fun y h1 h2 => by omega⟩
  rw [rowUp_id] at e
  refine ⟨r', by rw [Int32.sub_eq_add_neg]; exact e, fun x hx => hr' x (Nat.zero_le _) hx⟩
end Bt
