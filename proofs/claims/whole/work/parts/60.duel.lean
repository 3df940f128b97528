section Duel
variable {σ : Sg} {I I' J I1 I2 : Nat → Nat → Int32} {L L' L1 L2 : Nat → Nat → Int64}
/-- whether a way leaves a world -/
def lv (T N : Nat → Nat) (x : Nat) : Bool := decide (cn (lft T N) (T 1) x ≠ 0)
def ch (T N : Nat → Nat) (W : Nat → Bool) (pl : Bool) (y : Nat) : Bool := lv T N y && (W y == pl)
def aL (T N : Nat → Nat) (x n : Nat) : Bool := anyB (fun f => unk N x f && (lv T N (x + 1 * 3 ^ f) || lv T N (x + 2 * 3 ^ f))) n
def aE (T N : Nat → Nat) (W : Nat → Bool) (pl : Bool) (x n : Nat) : Bool := anyB (fun f => unk N x f && (ch T N W pl (x + 1 * 3 ^ f) || ch T N W pl (x + 2 * 3 ^ f))) n
def tc (x n : Nat) : Nat := cntB (fun f => !decide (dg x f = 0)) n
def plz (T : Nat → Nat) (fi x : Nat) : Bool := decide ((fi + tc x (T 1)) % 2 = 0)
def dvl (T N : Nat → Nat) (k fi : Nat) : Nat → Nat → Bool
  | 0, _ => false
  | m + 1, x => if aL T N x (T 1) = true then (aE T N (fun y => dvl T N k fi m y) (plz T fi x) x (T 1) == plz T fi x) else decide (cn (lw T N k) (T 1) x ≠ 0)
theorem unk_d {N : Nat → Nat} {x f : Nat} (h : unk N x f = true) : dg x f = 0 := by
  unfold unk at h
  rw [Bool.and_eq_true] at h
  exact of_decide_eq_true h.2
theorem aE_congr {T N : Nat → Nat} {W W' : Nat → Bool} {pl : Bool} {x n : Nat} (h : ∀ f, f < n → unk N x f = true → W (x + 1 * 3 ^ f) = W' (x + 1 * 3 ^ f) ∧ W (x + 2 * 3 ^ f) = W' (x + 2 * 3 ^ f)) : aE T N W pl x n = aE T N W' pl x n := by
  unfold aE
  refine anyB_congr fun f hf => ?_
  by_cases hu : unk N x f = true
  · obtain ⟨h1, h2⟩ := h f hf hu
    unfold ch
    rw [h1, h2]
  · rw [Bool.not_eq_true] at hu
    rw [hu, Bool.false_and, Bool.false_and]
theorem dvl_st {T N : Nat → Nat} {k fi : Nat} : ∀ m m' x, x < 3 ^ T 1 → 3 ^ T 1 - x ≤ m → 3 ^ T 1 - x ≤ m' → dvl T N k fi m x = dvl T N k fi m' x
  | 0, m', x, h1, h2, h3 => by omega
  | m + 1, 0, x, h1, h2, h3 => by omega
  | m + 1, m' + 1, x, h1, h2, h3 => by
    have e : aE T N (fun y => dvl T N k fi m y) (plz T fi x) x (T 1) = aE T N (fun y => dvl T N k fi m' y) (plz T fi x) x (T 1) := aE_congr fun f hf hp => by
      have hd := unk_d hp
      have p3 := p3_pos f
      have a1 := put_lt h1 hf hd (d := 1) (by omega)
      have a2 := put_lt h1 hf hd (d := 2) (by omega)
      exact ⟨dvl_st m m' (x + 1 * 3 ^ f) a1 (by omega) (by omega), dvl_st m m' (x + 2 * 3 ^ f) a2 (by omega) (by omega)⟩
    show (if aL T N x (T 1) = true then (aE T N (fun y => dvl T N k fi m y) (plz T fi x) x (T 1) == plz T fi x) else decide (cn (lw T N k) (T 1) x ≠ 0)) = (if aL T N x (T 1) = true then (aE T N (fun y => dvl T N k fi m' y) (plz T fi x) x (T 1) == plz T fi x) else decide (cn (lw T N k) (T 1) x ≠ 0))
    rw [e]
/-- whether the one who pleads wins from there on -/
def dv (T N : Nat → Nat) (k fi x : Nat) : Bool := dvl T N k fi (3 ^ T 1 - x) x
theorem dv_eq {T N : Nat → Nat} {k fi x : Nat} (hx : x < 3 ^ T 1) : dv T N k fi x = if aL T N x (T 1) = true then (aE T N (dv T N k fi) (plz T fi x) x (T 1) == plz T fi x) else decide (cn (lw T N k) (T 1) x ≠ 0) := by
  unfold dv
  obtain ⟨m, hm⟩ : ∃ m, 3 ^ T 1 - x = m + 1 := ⟨3 ^ T 1 - x - 1, by omega⟩
  have e : aE T N (fun y => dvl T N k fi m y) (plz T fi x) x (T 1) = aE T N (fun y => dvl T N k fi (3 ^ T 1 - y) y) (plz T fi x) x (T 1) := aE_congr fun f hf hp => by
    have hd := unk_d hp
    have p3 := p3_pos f
    have a1 := put_lt hx hf hd (d := 1) (by omega)
    have a2 := put_lt hx hf hd (d := 2) (by omega)
    exact ⟨dvl_st m (3 ^ T 1 - (x + 1 * 3 ^ f)) (x + 1 * 3 ^ f) a1 (by omega) (by omega), dvl_st m (3 ^ T 1 - (x + 2 * 3 ^ f)) (x + 2 * 3 ^ f) a2 (by omega) (by omega)⟩
  rw [hm]
  show (if aL T N x (T 1) = true then (aE T N (fun y => dvl T N k fi m y) (plz T fi x) x (T 1) == plz T fi x) else decide (cn (lw T N k) (T 1) x ≠ 0)) = _
  rw [e]
theorem aE_aL {T N : Nat → Nat} {W : Nat → Bool} {pl : Bool} {x n : Nat} (h : aL T N x n = false) : aE T N W pl x n = false := by
  unfold aL at h
  unfold aE
  induction n with
  | zero => rfl
  | succ n ih =>
    simp only [anyB] at h ⊢
    rw [Bool.or_eq_false_iff] at h
    rw [ih h.1, Bool.false_or]
    have h2 := h.2
    unfold ch
    revert h2
    cases unk N x n <;> cases lv T N (x + 1 * 3 ^ n) <;> cases lv T N (x + 2 * 3 ^ n) <;> simp
theorem anyB_gap {p : Nat → Bool} {n m : Nat} (h : n ≤ m) (hz : ∀ f, n ≤ f → f < m → p f = false) : anyB p m = anyB p n := by
  obtain ⟨e, rfl⟩ := Nat.le.dest h
  clear h
  induction e with
  | zero => rfl
  | succ e ih =>
    show (anyB p (n + e) || p (n + e)) = _
    rw [hz (n + e) (by omega) (by omega), Bool.or_false]
    exact ih fun f h1 h2 => hz f h1 (by omega)
theorem aL_gap {T N : Nat → Nat} {x n m : Nat} (h : n ≤ m) (hz : ∀ f, n ≤ f → f < m → dg x f ≠ 0) : aL T N x m = aL T N x n := anyB_gap h fun f h1 h2 => by
  unfold unk; rw [decide_eq_false (hz f h1 h2), Bool.and_false, Bool.false_and]
theorem aE_gap {T N : Nat → Nat} {W : Nat → Bool} {pl : Bool} {x n m : Nat} (h : n ≤ m) (hz : ∀ f, n ≤ f → f < m → dg x f ≠ 0) : aE T N W pl x m = aE T N W pl x n := anyB_gap h fun f h1 h2 => by
  unfold unk; rw [decide_eq_false (hz f h1 h2), Bool.and_false, Bool.false_and]
/-- how far the least, the greatest has come -/
def eD (a e p : Bool) : Int32 := if a = true then bI (e == p) else -1
theorem bI_m1 (b : Bool) : ¬ bI b = -1 := by cases b <;> decide
theorem mmin_b (a b : Bool) : mmin (bI a) (bI b) = bI (a && b) := by cases a <;> cases b <;> rfl
theorem mmax_b (a b : Bool) : mmax (bI a) (bI b) = bI (a || b) := by cases a <;> cases b <;> rfl
theorem eD_1 (T N : Nat → Nat) (W : Nat → Bool) (p e : Bool) (y : Nat) (hl : lv T N y = true) : bI (W y) = eD (false || lv T N y) (false || ch T N W p y) p := by
  unfold eD ch; rw [hl]
  cases W y <;> cases p <;> rfl
theorem eD_2 (T N : Nat → Nat) (W : Nat → Bool) (e : Bool) (y : Nat) (hl : lv T N y = true) : mmin (eD true e false) (bI (W y)) = eD (true || lv T N y) (e || ch T N W false y) false := by
  unfold eD ch; rw [hl]
  cases W y <;> cases e <;> rfl
theorem eD_3 (T N : Nat → Nat) (W : Nat → Bool) (e : Bool) (y : Nat) (hl : lv T N y = true) : mmax (eD true e true) (bI (W y)) = eD (true || lv T N y) (e || ch T N W true y) true := by
  unfold eD ch; rw [hl]
  cases W y <;> cases e <;> rfl
theorem dstep_ok {T N : Nat → Nat} (h : MI I T N) (h3 : P3 I) {k : Nat} (hw : WW T N k I) {W : Nat → Bool} {x f so : Nat} {r : Nat → Int32} {a e p : Bool} (fi : Int32) (hx : x < 3 ^ T 1) (hf : f < T 1) (hs : so = 1 ∨ so = 2) (hq : (knF N).testBit f = false)
    (hy : x + so * 3 ^ f < 3 ^ T 1) (hr : r (x + so * 3 ^ f) = bI (W (x + so * 3 ^ f))) (hae : a = false → e = false) :
    mX12_laysDuel_l100f 433 fi (nI x) (bI p) (nI f) (nI so) (hk σ (rowUp I 453 (updA r x (eD a e p))) L) = some (.inl (nI (so + 1), hk σ (rowUp I 453 (updA r x (eD (a || lv T N (x + so * 3 ^ f)) (e || ch T N W p (x + so * 3 ^ f)) p))) L)) := by
  have hW := h.2.2.1
  have w1 := hW.1.2.1
  have hM := p3_8 w1
  have p3 := p3_pos f
  have cl := cn_le (lft T N) (T 1) (x + so * 3 ^ f)
  have mi : ∀ r, MI (rowUp I 453 r) T N := fun r => h.up (by omega) (by omega) (by omega)
  have pp : ∀ r, P3 (rowUp I 453 r) := fun r => h3.up r (by omega)
  have ww : ∀ r, WW T N k (rowUp I 453 r) := fun r x hx => by rw [rowUp_at, rowUp_at, if_neg (by decide), if_neg (by decide)]; exact hw x hx
  have hne : x + so * 3 ^ f ≠ x := by
    rcases hs with rfl | rfl <;> omega
  have st : ∀ v, v = eD (a || lv T N (x + so * 3 ^ f)) (e || ch T N W p (x + so * 3 ^ f)) p → mX12_laysDuel_b203 433 fi (nI x) (bI p) (nI f) (nI so) 453 (nI x) v (hk σ (rowUp I 453 (updA r x (eD a e p))) L) = some (.inl (nI (so + 1), hk σ (rowUp I 453 (updA r x (eD (a || lv T N (x + so * 3 ^ f)) (e || ch T N W p (x + so * 3 ^ f)) p))) L)) := fun v hv => by
    unfold mX12_laysDuel_b203 mX12_laysDuel_b204
    rw [stI_ok (n := 6561) rfl (by omega) (by omega), obind, setI_hk, rowUp_two, hpI_hk', rowUp_same, updA_two, nI_1, hv]
  have lx : ldI 453 (nI x) (hk σ (rowUp I 453 (updA r x (eD a e p))) L) = some (eD a e p) := by
    rw [ldI_ok (n := 6561) rfl (by omega) (by omega), hpI_hk', rowUp_same, updA_same]
  have ly : ldI 453 (nI (x + so * 3 ^ f)) (hk σ (rowUp I 453 (updA r x (eD a e p))) L) = some (bI (W (x + so * 3 ^ f))) := by
    rw [ldI_ok (n := 6561) rfl (by omega) (by omega), hpI_hk', rowUp_same, updA_ne _ _ hne, hr]
  unfold mX12_laysDuel_l100f
  rw [if_pos (show nI so < (3 : Int32) by rcases hs with rfl | rfl <;> decide), misKnown_ok (mi _) (by omega), obind, bI_if0, hq, if_pos rfl, ld3 (pp _) (by omega), obind, g451, obind, pk_mul, nI_add, ldI_ok (n := 6561) rfl (by omega) (by omega), obind, hpI_hk', (ww _ _ hy).1]
  by_cases hl : cn (lft T N) (T 1) (x + so * 3 ^ f) = 0
  · have hlv : lv T N (x + so * 3 ^ f) = false := by unfold lv; exact decide_eq_false fun q => q hl
    have hch : ch T N W p (x + so * 3 ^ f) = false := by unfold ch; rw [hlv]; rfl
    rw [hl, if_neg (show ¬ (0 : Int32) < nI 0 by decide), hlv, hch, Bool.or_false, Bool.or_false]
    unfold mX12_laysDuel_b204
    rw [nI_1]
  · have hlv : lv T N (x + so * 3 ^ f) = true := by unfold lv; exact decide_eq_true hl
    rw [if_pos (show (0 : Int32) < nI (cn (lft T N) (T 1) (x + so * 3 ^ f)) from nI_lt (a := 0) (by omega) (by omega)), g453, obind, obind, lx, obind]
    cases a
    · have he := hae rfl
      subst he
      rw [if_pos (show eD false false p = -1 from rfl), obind, ly, obind]
      exact st _ (eD_1 T N W p false _ hlv)
    · rw [if_neg (show ¬ eD true e p = -1 from bI_m1 _)]
      cases p
      · rw [if_pos (show bI false = 0 from rfl), obind, lx, obind, obind, ly, obind]
        exact st _ (eD_2 T N W e _ hlv)
      · rw [if_neg (show ¬ bI true = 0 by decide), obind, lx, obind, obind, ly, obind]
        exact st _ (eD_3 T N W e _ hlv)
theorem nI_m2 {a : Nat} (ha : a < 2147483648) : nI a - nI a / 2 * 2 = nI (a % 2) := by
  rw [show nI a / (2 : Int32) = nI (a / 2) from nI_div (b := 2) ha (by omega) (by omega), show (2 : Int32) = nI 2 from rfl, pk_mul, nI_sub (by omega)]; congr 1; omega
theorem aLS (T N : Nat → Nat) (x n : Nat) : aL T N x (n + 1) = (aL T N x n || (unk N x n && (lv T N (x + 1 * 3 ^ n) || lv T N (x + 2 * 3 ^ n)))) := rfl
theorem aES (T N : Nat → Nat) (W : Nat → Bool) (p : Bool) (x n : Nat) : aE T N W p x (n + 1) = (aE T N W p x n || (unk N x n && (ch T N W p (x + 1 * 3 ^ n) || ch T N W p (x + 2 * 3 ^ n)))) := rfl
/-- all of one fact -/
theorem dfact_ok {T N : Nat → Nat} (h : MI I T N) (h3 : P3 I) {k : Nat} (hw : WW T N k I) {W : Nat → Bool} {x f : Nat} {r : Nat → Int32} {p : Bool} (fi : Int32) (hx : x < 3 ^ T 1) (hf : f < T 1) (hd : dg x f = 0)
    (hr : ∀ y, x < y → y < 3 ^ T 1 → r y = bI (W y)) :
    ∃ u, mX12_laysDuel_l100 433 fi (nI x) (bI p) (nI f) 1 (hk σ (rowUp I 453 (updA r x (eD (aL T N x f) (aE T N W p x f) p))) L) = some (.inl (nI u, hk σ (rowUp I 453 (updA r x (eD (aL T N x u) (aE T N W p x u) p))) L)) ∧ f + 1 ≤ u ∧ u ≤ T 1 ∧ (u < T 1 → dg x u = 0) := by
  have hW := h.2.2.1
  have w1 := hW.1.2.1
  have hM := p3_8 w1
  have p3 := p3_pos f
  have s1 := put_lt hx hf hd (d := 1) (by omega)
  have s2 := put_lt hx hf hd (d := 2) (by omega)
  have mi : ∀ r, MI (rowUp I 453 r) T N := fun r => h.up (by omega) (by omega) (by omega)
  have pp : ∀ r, P3 (rowUp I 453 r) := fun r => h3.up r (by omega)
  obtain ⟨u, eu, a1, a2, a3, a4⟩ := muntold_ok (σ := σ) (L := L) (mi (updA r x (eD (aL T N x (f + 1)) (aE T N W p x (f + 1)) p))) (pp _) (x := x) (s := f + 1) (by omega) (by omega)
  refine ⟨u, ?_, a1, a2, a4⟩
  rw [aL_gap a1 a3, aE_gap a1 a3]
  have out : mX12_laysDuel_b210 433 fi (nI x) (bI p) (nI f) (hk σ (rowUp I 453 (updA r x (eD (aL T N x (f + 1)) (aE T N W p x (f + 1)) p))) L) = some (.inl (nI u, hk σ (rowUp I 453 (updA r x (eD (aL T N x (f + 1)) (aE T N W p x (f + 1)) p))) L)) := by
    unfold mX12_laysDuel_b210
    rw [nI_1, eu, obind]
  unfold mX12_laysDuel_l100
  cases q : (knF N).testBit f
  · have hu : unk N x f = true := by unfold unk; rw [q, decide_eq_true hd]; rfl
    rw [aLS, aES, hu, Bool.true_and, Bool.true_and, ← Bool.or_assoc, ← Bool.or_assoc] at out ⊢
    have e1 := dstep_ok (σ := σ) (L := L) h h3 hw (W := W) (r := r) (a := aL T N x f) (e := aE T N W p x f) (p := p) fi hx hf (Or.inl rfl) q s1 (hr _ (by omega) s1) aE_aL
    have e2 := dstep_ok (σ := σ) (L := L) h h3 hw (W := W) (r := r) (a := aL T N x f || lv T N (x + 1 * 3 ^ f)) (e := aE T N W p x f || ch T N W p (x + 1 * 3 ^ f)) (p := p) fi hx hf (Or.inr rfl) q s2 (hr _ (by omega) s2) (fun z => by
      rw [Bool.or_eq_false_iff] at z
      rw [aE_aL z.1]; unfold ch; rw [z.2]; rfl)
    rw [show ((1 : Int32), hk σ (rowUp I 453 (updA r x (eD (aL T N x f) (aE T N W p x f) p))) L) = (nI 1, hk σ (rowUp I 453 (updA r x (eD (aL T N x f) (aE T N W p x f) p))) L) from rfl, lp_inl e1, lp_inl e2]
    refine lp_inr ?_
    show mX12_laysDuel_l100f 433 fi (nI x) (bI p) (nI f) (nI 3) _ = _
    unfold mX12_laysDuel_l100f
    rw [if_neg (show ¬ nI 3 < (3 : Int32) by decide), out, xts]
  · have hu : unk N x f = false := by unfold unk; rw [q]; rfl
    rw [aLS, aES, hu, Bool.false_and, Bool.false_and, Bool.or_false, Bool.or_false] at out ⊢
    refine lp_inr ?_
    show mX12_laysDuel_l100f 433 fi (nI x) (bI p) (nI f) 1 _ = _
    unfold mX12_laysDuel_l100f
    rw [if_pos (by decide), misKnown_ok (mi _) (by omega), obind, bI_if0, q, if_neg nTF, out, xts]
/-- laysDuel -/
theorem laysDuel_ok {T N : Nat → Nat} (h : MI I T N) (h3 : P3 I) {k fi : Nat} (hw : WW T N k I) (hfi : fi < 2) : ∃ r, mX12_laysDuel 433 (nI fi) (hk σ I L) = some (hk σ (rowUp I 453 r) L) ∧ ∀ x, x < 3 ^ T 1 → r x = bI (dv T N k fi x) := by
  have hW := h.2.2.1
  have w1 := hW.1.2.1
  have hM := p3_8 w1
  have mi : ∀ r, MI (rowUp I 453 r) T N := fun r => h.up (by omega) (by omega) (by omega)
  have pp : ∀ r, P3 (rowUp I 453 r) := fun r => h3.up r (by omega)
  have ww : ∀ r, WW T N k (rowUp I 453 r) := fun r x hx => by rw [rowUp_at, rowUp_at, if_neg (by decide), if_neg (by decide)]; exact hw x hx
  have inner : ∀ x r, x < 3 ^ T 1 → (∀ y, x < y → y < 3 ^ T 1 → r y = bI (dv T N k fi y)) →
      ∃ r', mX12_laysDuel_b69 433 (nI fi) (nI x) (bI (plz T fi x)) (hk σ (rowUp I 453 r) L) = some (.inl (nI x + -1, hk σ (rowUp I 453 r') L)) ∧ ∀ y, x ≤ y → y < 3 ^ T 1 → r' y = bI (dv T N k fi y) := by
    intro x r hx hr
    obtain ⟨p, hp⟩ : ∃ p, p = plz T fi x := ⟨_, rfl⟩
    rw [← hp]
    obtain ⟨u, eu, _, u2, u3, u4⟩ := muntold_ok (σ := σ) (L := L) (mi (updA r x (-1))) (pp _) (x := x) (s := 0) (by omega) (Nat.zero_le _)
    unfold mX12_laysDuel_b69
    rw [g453, obind, stI_ok (n := 6561) rfl (by omega) (by omega), obind, setI_hk, rowUp_two, hpI_hk', rowUp_same, show (0 : Int32) = nI 0 from rfl, eu, obind]
    unfold mX12_laysDuel_l86
    have fin : ∀ v, v = bI (dv T N k fi x) → ∀ y, x ≤ y → y < 3 ^ T 1 → (updA r x v) y = bI (dv T N k fi y) := by
      intro v hv y hy1 hy2
      rw [updA_at]
      by_cases e : y = x
      · subst e; rw [if_pos rfl, hv]
      · rw [if_neg e]; exact hr y (by omega) hy2
    have hb := dv_eq (N := N) (k := k) (fi := fi) hx
    rw [← hp] at hb
    have bw := cn_le (lw T N k) (T 1) x
    have done : ∃ o, mX12_laysDuel_l86f 433 (nI fi) (nI x) (bI p) (nI (T 1)) (hk σ (rowUp I 453 (updA r x (eD (aL T N x (T 1)) (aE T N (dv T N k fi) p x (T 1)) p))) L) = some (.inr o) ∧ ∃ r', o = .inl (nI x + -1, hk σ (rowUp I 453 r') L) ∧ ∀ y, x ≤ y → y < 3 ^ T 1 → r' y = bI (dv T N k fi y) := by
      unfold mX12_laysDuel_l86f
      rw [g434, ldT1 (mi _).1, obind, c_nlt (Nat.le_refl _) (by omega), g453, obind, ldI_ok (n := 6561) rfl (by omega) (by omega), obind, hpI_hk', rowUp_same, updA_same]
      cases ha : aL T N x (T 1)
      · rw [ha, if_neg (by decide)] at hb
        have sto : ∀ v, v = bI (dv T N k fi x) → ∃ o, xt (S := Int32 × Hp) (mX12_laysDuel_b253 433 (nI fi) (nI x) 453 (nI x) v (hk σ (rowUp I 453 (updA r x (eD false (aE T N (dv T N k fi) p x (T 1)) p))) L)) = some (.inr o) ∧ ∃ r', o = .inl (nI x + -1, hk σ (rowUp I 453 r') L) ∧ ∀ y, x ≤ y → y < 3 ^ T 1 → r' y = bI (dv T N k fi y) := fun v hv => by
          unfold mX12_laysDuel_b253 mX12_laysDuel_b254
          rw [stI_ok (n := 6561) rfl (by omega) (by omega), obind, setI_hk, rowUp_two, hpI_hk', rowUp_same, updA_two, xts]
          exact ⟨_, rfl, _, rfl, fin v hv⟩
        rw [if_pos (show eD false (aE T N (dv T N k fi) p x (T 1)) p = -1 from rfl), obind, g452, obind, ldI_ok (n := 6561) rfl (by omega) (by omega), obind, hpI_hk', (ww _ x hx).2]
        by_cases z : cn (lw T N k) (T 1) x = 0
        · rw [z, if_neg (show ¬ (0 : Int32) < nI 0 by decide)]
          exact sto _ (by rw [hb, z]; rfl)
        · rw [if_pos (show (0 : Int32) < nI (cn (lw T N k) (T 1) x) from nI_lt (a := 0) (by omega) (by omega))]
          exact sto _ (by rw [hb, decide_eq_true z]; rfl)
      · rw [ha, if_pos rfl] at hb
        rw [if_neg (show ¬ eD true (aE T N (dv T N k fi) p x (T 1)) p = -1 from bI_m1 _)]
        unfold mX12_laysDuel_b254
        rw [xts]
        exact ⟨_, rfl, _, rfl, fin _ (by rw [hb]; rfl)⟩
    obtain ⟨o, e, r', rfl, hr'⟩ := lp_invX (f := fun s : Int32 × Hp => mX12_laysDuel_l86f 433 (nI fi) (nI x) (bI p) s.1 s.2) (T 1) (fun i st => ∃ u, st = (nI u, hk σ (rowUp I 453 (updA r x (eD (aL T N x u) (aE T N (dv T N k fi) p x u) p))) L) ∧ i ≤ u ∧ u ≤ T 1 ∧ (u < T 1 → dg x u = 0))
      (fun o => ∃ r', o = .inl (nI x + -1, hk σ (rowUp I 453 r') L) ∧ ∀ y, x ≤ y → y < 3 ^ T 1 → r' y = bI (dv T N k fi y))
      (fun i st hi hQ => by
        obtain ⟨u, rfl, hiu, hu, hu0⟩ := hQ
        show (∃ t, mX12_laysDuel_l86f 433 (nI fi) (nI x) (bI p) (nI u) (hk σ (rowUp I 453 (updA r x (eD (aL T N x u) (aE T N (dv T N k fi) p x u) p))) L) = some (.inl t) ∧ _) ∨ ∃ o, mX12_laysDuel_l86f 433 (nI fi) (nI x) (bI p) (nI u) (hk σ (rowUp I 453 (updA r x (eD (aL T N x u) (aE T N (dv T N k fi) p x u) p))) L) = some (.inr o) ∧ _
        by_cases hut : u < T 1
        · obtain ⟨u', e, b1, b2, b3⟩ := dfact_ok (σ := σ) (L := L) h h3 hw (W := dv T N k fi) (r := r) (p := p) (nI fi) hx hut (hu0 hut) hr
          refine Or.inl ⟨_, ?_, u', rfl, by omega, b2, b3⟩
          unfold mX12_laysDuel_l86f
          rw [g434, ldT1 (mi _).1, obind, c_lt hut (by omega)]
          exact e
        · have hue : u = T 1 := by omega
          subst hue
          exact Or.inr done)
      (fun st hQ => by
        obtain ⟨u, rfl, hiu, hu, hu0⟩ := hQ
        have hue : u = T 1 := by omega
        subst hue
        exact done) (i := 0) (s := (nI u, hk σ (rowUp I 453 (updA r x (-1))) L)) (Nat.zero_le _)
      ⟨u, by rw [aL_gap (n := 0) (Nat.zero_le u) u3, aE_gap (n := 0) (Nat.zero_le u) u3]; rfl, Nat.zero_le _, u2, u4⟩
    exact ⟨r', e, hr'⟩
  have one : ∀ x r, x < 3 ^ T 1 → (∀ y, x + 1 ≤ y → y < 3 ^ T 1 → r y = bI (dv T N k fi y)) → ∃ h', mX12_laysDuel_l13f 433 (nI fi) (nI x) (hk σ (rowUp I 453 r) L) = some (.inl (nI x + -1, h')) ∧ ∃ r', h' = hk σ (rowUp I 453 r') L ∧ ∀ y, x ≤ y → y < 3 ^ T 1 → r' y = bI (dv T N k fi y) := by
    intro x r hx hr
    obtain ⟨r', e, hr'⟩ := inner x r hx fun y h1 h2 => hr y h1 h2
    refine ⟨_, ?_, r', rfl, hr'⟩
    unfold mX12_laysDuel_l13f mX12_laysDuel_l22
    rw [if_neg (nI_pos (show x < 2 ^ 31 by omega))]
    refine lp_traj (f := fun s : Int32 × Int32 => mX12_laysDuel_l22f 433 (nI fi) (nI x) (hk σ (rowUp I 453 r) L) s.1 s.2) (T 1) (fun i => (nI (tc x i), nI i)) _ (fun i hi => ?_) ?_
    · show mX12_laysDuel_l22f 433 (nI fi) (nI x) (hk σ (rowUp I 453 r) L) (nI (tc x i)) (nI i) = some (.inl (nI (cntB (fun f => !decide (dg x f = 0)) i + (if (!decide (dg x i = 0)) = true then 1 else 0)), nI (i + 1)))
      have dl := dg_lt x i
      unfold mX12_laysDuel_l22f mX12_laysDuel_b48
      rw [g434, ldT1 (mi _).1, obind, c_lt hi (by omega), mdig_ok (pp _) (by omega) (by omega), obind, c_0 (by omega), nI_1]
      by_cases z : dg x i = 0
      · rw [if_pos z, decide_eq_true z, if_neg (by decide), Int32.add_zero]; rfl
      · rw [if_neg z, decide_eq_false z, if_pos (by decide), nI_1]; rfl
    · show mX12_laysDuel_l22f 433 (nI fi) (nI x) (hk σ (rowUp I 453 r) L) (nI (tc x (T 1))) (nI (T 1)) = _
      have tb : tc x (T 1) ≤ T 1 := cntB_le _ _
      unfold mX12_laysDuel_l22f
      rw [g434, ldT1 (mi _).1, obind, c_nlt (Nat.le_refl _) (by omega), show nz (2 : Int32) = some 2 from rfl, obind, nI_add, nI_m2 (by omega), c_0 (by omega)]
      unfold plz at e
      by_cases z : (fi + tc x (T 1)) % 2 = 0
      · rw [decide_eq_true z] at e
        have e : mX12_laysDuel_b69 433 (nI fi) (nI x) (1 : Int32) (hk σ (rowUp I 453 r) L) = some (.inl (nI x + -1, hk σ (rowUp I 453 r') L)) := e
        rw [if_pos z, e, xts]
      · rw [decide_eq_false z] at e
        have e : mX12_laysDuel_b69 433 (nI fi) (nI x) (0 : Int32) (hk σ (rowUp I 453 r) L) = some (.inl (nI x + -1, hk σ (rowUp I 453 r') L)) := e
        rw [if_neg z, e, xts]
  have hM0 := p3_pos (T 1)
  unfold mX12_laysDuel mX12_laysDuel_l13
  rw [if_pos s433, g434, ldT1 h.1, obind, ld3 h3 (by omega), obind]
  obtain ⟨o, e, r', rfl, hr'⟩ := lp_dn (f := fun s : Int32 × Hp => mX12_laysDuel_l13f 433 (nI fi) s.1 s.2) (3 ^ T 1) (fun m h => ∃ r, h = hk σ (rowUp I 453 r) L ∧ ∀ y, m ≤ y → y < 3 ^ T 1 → r y = bI (dv T N k fi y))
    (fun o => ∃ r, o = hk σ (rowUp I 453 r) L ∧ ∀ y, 0 ≤ y → y < 3 ^ T 1 → r y = bI (dv T N k fi y))
    (fun x h hx hQ => by
      obtain ⟨r, rfl, hr⟩ := hQ
      exact one x r hx hr)
    (fun h hQ => by
      obtain ⟨r, rfl, hr⟩ := hQ
      refine ⟨_, ?_, r, rfl, hr⟩
      show mX12_laysDuel_l13f 433 (nI fi) (-1) (hk σ (rowUp I 453 r) L) = _
      unfold mX12_laysDuel_l13f
      rw [if_pos (by decide), xts]) (h := hk σ (rowUp I 453 (I 453)) L) ⟨I 453, rfl, fun y h1 h2 => by omega⟩
  rw [rowUp_id] at e
  refine ⟨r', by rw [Int32.sub_eq_add_neg]; exact e, fun x hx => hr' x (Nat.zero_le _) hx⟩
end Duel
