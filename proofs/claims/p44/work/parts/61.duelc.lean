section DuelC
variable {σ : Sg} {I I' J I1 I2 : Nat → Nat → Int32} {L L' L1 L2 : Nat → Nat → Int64}
theorem lv_mv {T N : Nat → Nat} {k x : Nat} : (mv (cn (lft T N) (T 1) x) (cn (lw T N k) (T 1) x) = 0) ↔ lv T N x = false := by
  have le := lw_le (T := T) (N := N) (k := k) (x := x)
  unfold mv lv
  rw [decide_eq_false_iff_not, Decidable.not_not]
  split <;> split <;> omega
theorem mv_3 (a b : Nat) : mv a b ≤ 3 := by unfold mv; split <;> split <;> omega
theorem tc_nd {T N : Nat → Nat} (hW : WT T) {fs so : Nat} (hf : sb fs (fre T N)) (hs : sb so fs) : tc (nd fs so) (T 1) = pc fs := by
  have w1 := hW.1.2.1
  have e : ∀ n, n ≤ 8 → tc (nd fs so) n = cntB (fun i => fs.testBit i) n := fun n hn => by
    unfold tc
    refine cntB_congr fun f hf' => ?_
    rw [dg_nd _ _ (by omega)]
    have := hs f
    unfold b1
    revert this
    cases fs.testBit f <;> cases so.testBit f <;> simp
  rw [e _ w1]
  unfold pc
  obtain ⟨d, hd⟩ := Nat.le.dest w1
  rw [← hd, cntB_add]
  have z : cntB (fun i => fs.testBit (T 1 + i)) d = 0 := by
    rw [cntB_0]
    rw [← Bool.not_eq_true, anyB_iff]
    rintro ⟨w, _, h2⟩
    have := fre_T hf h2
    omega
  rw [z, Nat.add_zero]
theorem fstB_any {p : Nat → Bool} {n : Nat} : fstB p n = none ↔ anyB p n = false := by
  rw [fstB_none, ← Bool.not_eq_true, anyB_iff]
  constructor
  · rintro h ⟨w, h1, h2⟩
    rw [h w h1] at h2; cases h2
  · intro h j hj
    cases e : p j
    · rfl
    · exact absurd ⟨j, hj, e⟩ h
theorem fst_cut {p : Nat → Bool} {n m : Nat} (h : n ≤ m) : fstB (fun f => decide (f < n) && p f) m = fstB p n := by
  cases e : fstB p n with
  | none =>
    rw [fstB_none] at e ⊢
    intro j hj
    by_cases hn : j < n
    · rw [e j hn, Bool.and_false]
    · rw [decide_eq_false hn, Bool.false_and]
  | some i =>
    rw [fstB_some] at e ⊢
    refine ⟨by omega, ?_, fun j hj => ?_⟩
    · rw [decide_eq_true e.1, e.2.1]; rfl
    · rw [e.2.2 j hj, Bool.and_false]
/-- a turn that wins -/
def tn (T N : Nat → Nat) (k fi : Nat) (wi : Bool) (x f : Nat) : Bool := unk N x f && (ch T N (dv T N k fi) wi (x + 1 * 3 ^ f) || ch T N (dv T N k fi) wi (x + 2 * 3 ^ f))
theorem aE_tn (T N : Nat → Nat) (k fi : Nat) (wi : Bool) (x n : Nat) : aE T N (dv T N k fi) wi x n = anyB (tn T N k fi wi x) n := rfl
/-- the class's value of a node -/
def vD (T N : Nat → Nat) (k fi fs so : Nat) : Nat := if lv T N (nd fs so) = true then (if dv T N k fi (nd fs so) = true then 1 else 0) else if fs = fre T N then 0 else (fi + pc fs) % 2
theorem leadsTo_ok {T N : Nat → Nat} {k fi : Nat} (hT : TR T N k I) {fs so : Nat} (wi : Bool) (hf : sb fs (fre T N)) (hs : sb so fs) (hv : I 424 (nd fs so) = nI (vD T N k fi fs so)) :
    mX9_leadsTo 420 (nI (nd fs so)) (bI wi) (hk σ I L) = some (bI (ch T N (dv T N k fi) wi (nd fs so))) := by
  have hn := nd_lt fs so
  have m3 := mv_3 (cn (lft T N) (T 1) (nd fs so)) (cn (lw T N k) (T 1) (nd fs so))
  unfold mX9_leadsTo ch
  rw [if_pos s420, g9, RF_420_2, at_r (n := 6561) rfl hn (by omega), obind, hT.2 fs so hf hs, c_0 (by omega)]
  by_cases hl : lv T N (nd fs so) = true
  · rw [if_neg (fun z => by rw [lv_mv.mp z] at hl; cases hl), g9, RF_420_3, at_r (n := 6561) rfl hn (by omega), obind, hv, hl, Bool.true_and]
    unfold vD
    rw [if_pos hl]
    cases dv T N k fi (nd fs so) <;> cases wi <;> rfl
  · rw [Bool.not_eq_true] at hl
    rw [if_pos (lv_mv.mpr hl), hl]; rfl
theorem fre_un {T N : Nat → Nat} {fs i : Nat} (q : (fre T N ^^^ (fre T N &&& fs)).testBit i = true) : (fre T N).testBit i = true ∧ fs.testBit i = false ∧ i < T 1 := by
  rw [Nat.testBit_xor, Nat.testBit_and] at q
  have h2 : (fre T N).testBit i = true ∧ fs.testBit i = false := by
    revert q
    cases (fre T N).testBit i <;> cases fs.testBit i <;> simp
  have h3 := h2.1
  rw [fre_bit, Bool.and_eq_true] at h3
  exact ⟨h2.1, h2.2, of_decide_eq_true h3.1⟩
theorem bestTurn_ok {T N : Nat → Nat} (hW : WT T) (hTh : Th I) {k fi fs so : Nat} (hT : TR T N k I) (wi : Bool) (hf : sb fs (fre T N)) (hs : sb so fs)
    (hr : ∀ f, fs.testBit f = false → (fre T N).testBit f = true → I 424 (nd (fs ||| 2 ^ f) so) = nI (vD T N k fi (fs ||| 2 ^ f) so) ∧ I 424 (nd (fs ||| 2 ^ f) (so ||| 2 ^ f)) = nI (vD T N k fi (fs ||| 2 ^ f) (so ||| 2 ^ f))) :
    mX9_bestTurn 420 (nI fs) (nI (nd fs so)) (bI wi) (hk σ I L) = some (match fstB (tn T N k fi wi (nd fs so)) (T 1) with
      | some f => nI (2 * f + (if ch T N (dv T N k fi) wi (nd fs so + 1 * 3 ^ f) = true then 0 else 1))
      | none => -1) := by
  have w1 := hW.1.2.1
  have hF := fre_lt (N := N) hW
  have hu : fre T N ^^^ (fre T N &&& fs) < 256 := Nat.xor_lt_two_pow (n := 8) hF (Nat.lt_of_le_of_lt Nat.and_le_left hF)
  have body : ∀ i, i < 8 → mX9_bestTurn_l3f 420 (nI fs) (nI (nd fs so)) (bI wi) (hk σ I L) (nI i) = if (decide (i < T 1) && tn T N k fi wi (nd fs so) i) = true then some (.inr (nI (2 * i + (if ch T N (dv T N k fi) wi (nd fs so + 1 * 3 ^ i) = true then 0 else 1)))) else some (.inl (nI (i + 1))) := by
    intro i hi
    unfold mX9_bestTurn_l3f mX9_bestTurn_b77
    rw [c_lt8 hi, gI_o 4 (n := 5) rfl, obind, hT.1, nx_not (by omega), has_nI (by omega) (by omega), obind, bI_if0, nI_1]
    cases q : (fre T N ^^^ (fre T N &&& fs)).testBit i
    · have z : (decide (i < T 1) && tn T N k fi wi (nd fs so) i) = false := by
        by_cases h1 : i < T 1
        · unfold tn
          rw [unk_nd hW hs h1, q, Bool.false_and, Bool.and_false]
        · rw [decide_eq_false h1, Bool.false_and]
      rw [if_pos rfl, z, if_neg (by decide)]
    · obtain ⟨q1, q2, q3⟩ := fre_un q
      have hp2 : 2 ^ i < 256 := Nat.pow_lt_pow_right (a := 2) (by omega) hi
      obtain ⟨r1, r2⟩ := hr i q2 q1
      have l1 := leadsTo_ok (σ := σ) (L := L) (fi := fi) hT wi (sb_or hf q1) (sb_or1 (f := i) hs) r1
      have l2 := leadsTo_ok (σ := σ) (L := L) (fi := fi) hT wi (sb_or hf q1) (sb_or2 (f := i) hs) r2
      rw [nd_or1 hi q2] at l1
      rw [nd_or2 hi q2 hs] at l2
      rw [if_neg nTF, g9, RF_420_0, shl1 (by omega), at_r (n := 256) rfl hp2 (by omega), obind, hTh _ hp2, th_1 hi, nI_add, l1, obind, bI_if0, decide_eq_true q3, Bool.true_and, show (2 : Int32) = nI 2 from rfl, pk_mul, nI_add, l2, obind, bI_if0]
      have tt : tn T N k fi wi (nd fs so) i = (ch T N (dv T N k fi) wi (nd fs so + 3 ^ i) || ch T N (dv T N k fi) wi (nd fs so + 2 * 3 ^ i)) := by
        unfold tn
        rw [unk_nd hW hs q3, q, Nat.one_mul, Bool.true_and]
      rw [tt, Nat.one_mul]
      cases ch T N (dv T N k fi) wi (nd fs so + 3 ^ i)
      · cases ch T N (dv T N k fi) wi (nd fs so + 2 * 3 ^ i)
        · rw [if_pos rfl, if_pos rfl, if_neg (by decide)]
        · rw [if_pos rfl, if_neg nTF]
          show xt (some (nI 2 * nI i + 1)) = some (Sum.inr (nI (2 * i + 1)))
          rw [pk_mul, nI_1, xts]
      · rw [if_neg nTF]
        show xt (some (nI 2 * nI i)) = some (Sum.inr (nI (2 * i + 0)))
        rw [pk_mul, xts, Nat.add_zero]
  unfold mX9_bestTurn mX9_bestTurn_l3
  rw [if_pos s420, ← fst_cut (p := tn T N k fi wi (nd fs so)) w1]
  refine lp_first (f := fun s : Int32 => mX9_bestTurn_l3f 420 (nI fs) (nI (nd fs so)) (bI wi) (hk σ I L) s) 8 (fun i => nI i) (fun i => decide (i < T 1) && tn T N k fi wi (nd fs so) i) (fun i => nI (2 * i + (if ch T N (dv T N k fi) wi (nd fs so + 1 * 3 ^ i) = true then 0 else 1))) (-1) (fun i hi hp => ?_) (fun i hi hp => ?_) ?_
  · show mX9_bestTurn_l3f 420 (nI fs) (nI (nd fs so)) (bI wi) (hk σ I L) (nI i) = _
    rw [body i hi, hp, if_neg (by decide)]
  · show mX9_bestTurn_l3f 420 (nI fs) (nI (nd fs so)) (bI wi) (hk σ I L) (nI i) = _
    rw [body i hi, hp, if_pos rfl]
  · show mX9_bestTurn_l3f 420 (nI fs) (nI (nd fs so)) (bI wi) (hk σ I L) (nI 8) = _
    unfold mX9_bestTurn_l3f
    rw [if_neg (by decide), xts]
theorem fre_ex {T N : Nat → Nat} (hW : WT T) {fs : Nat} (hf : sb fs (fre T N)) (hne : fs ≠ fre T N) : ∃ f, f < T 1 ∧ fs.testBit f = false ∧ (fre T N).testBit f = true := by
  have hF := fre_lt (N := N) hW
  by_cases e : fre T N ^^^ (fre T N &&& fs) = 0
  · exact absurd (Nat.le_antisymm (sb_le hf) (sb_le (sb_iff.mp e))) hne
  · have hu : fre T N ^^^ (fre T N &&& fs) < 256 := Nat.xor_lt_two_pow (n := 8) hF (Nat.lt_of_le_of_lt Nat.and_le_left hF)
    obtain ⟨f, _, hfu, _⟩ := lowb' hu e
    obtain ⟨a, b, c⟩ := fre_un hfu
    exact ⟨f, c, b, a⟩
theorem lv_dead {T N : Nat → Nat} {x f d : Nat} (hf : f < T 1) (h0 : dg x f = 0) (hl : lv T N x = false) (hd : d = 1 ∨ d = 2) : lv T N (x + d * 3 ^ f) = false := by
  have s := cn_split (P := lft T N) hf h0
  unfold lv at hl ⊢
  rw [decide_eq_false_iff_not, Decidable.not_not] at hl ⊢
  rcases hd with rfl | rfl <;> omega
theorem lv_kid {T N : Nat → Nat} {x f : Nat} (hf : f < T 1) (h0 : dg x f = 0) (hl : lv T N x = true) : (lv T N (x + 1 * 3 ^ f) || lv T N (x + 2 * 3 ^ f)) = true := by
  have s := cn_split (P := lft T N) hf h0
  unfold lv at hl ⊢
  have hl := of_decide_eq_true hl
  rw [Bool.or_eq_true, decide_eq_true_iff, decide_eq_true_iff]
  omega
/-- leaves: not mixed -/
theorem leaf_mv {T N : Nat → Nat} (hW : WT T) {k so : Nat} (hs : sb so (fre T N)) : (mv (cn (lft T N) (T 1) (nd (fre T N) so)) (cn (lw T N k) (T 1) (nd (fre T N) so)) = 1) ↔ cn (lw T N k) (T 1) (nd (fre T N) so) ≠ 0 := by
  have hF := fre_lt (N := N) hW
  have h1 := mk_mv hW (k := k) (sb_rf (fre T N)) hs
  rw [mk_leaf hF (knS_lt N) fre_kn hs] at h1
  have h2 : lvT T N k (so ||| knS N) ≠ 3 := by
    unfold lvT
    split
    · split <;> omega
    · omega
  rw [h1] at h2
  unfold mv at h2 ⊢
  by_cases z : cn (lw T N k) (T 1) (nd (fre T N) so) = 0
  · rw [if_pos z]
    constructor
    · intro q; split at q <;> omega
    · intro q; exact absurd z q
  · rw [if_neg z] at h2 ⊢
    constructor
    · intro _; exact z
    · intro _
      by_cases z2 : cn (lw T N k) (T 1) (nd (fre T N) so) = cn (lft T N) (T 1) (nd (fre T N) so)
      · rw [if_pos z2]
      · rw [if_neg z2] at h2; exact absurd rfl h2
theorem winner_ok {T N : Nat → Nat} (hW : WT T) (hTh : Th I) {k fi fs so : Nat} (hT : TR T N k I) (hf : sb fs (fre T N)) (hs : sb so fs)
    (hr : ∀ f, fs.testBit f = false → (fre T N).testBit f = true → I 424 (nd (fs ||| 2 ^ f) so) = nI (vD T N k fi (fs ||| 2 ^ f) so) ∧ I 424 (nd (fs ||| 2 ^ f) (so ||| 2 ^ f)) = nI (vD T N k fi (fs ||| 2 ^ f) (so ||| 2 ^ f))) :
    mX9_winner 420 (nI fs) (nI (nd fs so)) (nI ((fi + pc fs) % 2)) (hk σ I L) = some (nI (vD T N k fi fs so)) := by
  have w1 := hW.1.2.1
  have hF := fre_lt (N := N) hW
  have hfl := sb_le hf
  have hn := nd_lt fs so
  have hT1 := nd_T hW hf hs
  have m3 := mv_3 (cn (lft T N) (T 1) (nd fs so)) (cn (lw T N k) (T 1) (nd fs so))
  have de := dv_eq (N := N) (k := k) (fi := fi) hT1
  unfold mX9_winner
  rw [if_pos s420, gI_o 4 (n := 5) rfl, obind, hT.1, c_eqd (by omega) (by omega)]
  by_cases e : fs = fre T N
  · have aLf : aL T N (nd fs so) (T 1) = false := by
      unfold aL
      rw [← Bool.not_eq_true, anyB_iff]
      rintro ⟨f, h1, h2⟩
      rw [Bool.and_eq_true, unk_nd hW hs h1, Nat.testBit_xor, Nat.testBit_and, e] at h2
      have := h2.1
      revert this
      cases (fre T N).testBit f <;> simp
    rw [aLf, if_neg (by decide)] at de
    rw [if_pos e, g9, RF_420_2, at_r (n := 6561) rfl hn (by omega), obind, hT.2 fs so hf hs, c_1 (by omega)]
    have lf := leaf_mv hW (k := k) (so := so) (by rw [← e]; exact hs)
    rw [← e] at lf
    have le := lw_le (T := T) (N := N) (k := k) (x := nd fs so)
    unfold vD
    rw [de]
    by_cases z : cn (lw T N k) (T 1) (nd fs so) = 0
    · rw [if_neg (fun q => lf.mp q z)]
      cases lv T N (nd fs so)
      · rw [if_neg (by decide), if_pos e]; rfl
      · rw [if_pos rfl, decide_eq_false (fun q => q z), if_neg (by decide)]; rfl
    · rw [if_pos (lf.mpr z), decide_eq_true z, if_pos rfl]
      have : lv T N (nd fs so) = true := by unfold lv; exact decide_eq_true (by omega)
      rw [if_pos this]; rfl
  · obtain ⟨f, f1, f2, f3⟩ := fre_ex hW hf e
    have hmv : (1 : Int32) - nI ((fi + pc fs) % 2) = bI (plz T fi (nd fs so)) := by
      unfold plz
      rw [tc_nd hW hf hs]
      rcases Nat.mod_two_eq_zero_or_one (fi + pc fs) with q | q <;> rw [q] <;> rfl
    have hmv2 : (1 : Int32) - bI (plz T fi (nd fs so)) = nI ((fi + pc fs) % 2) := by
      unfold plz
      rw [tc_nd hW hf hs]
      rcases Nat.mod_two_eq_zero_or_one (fi + pc fs) with q | q <;> rw [q] <;> rfl
    rw [if_neg e, hmv, bestTurn_ok hW hTh hT _ hf hs hr, obind, hmv2]
    have hun : unk N (nd fs so) f = true := by
      rw [unk_nd hW hs f1, Nat.testBit_xor, Nat.testBit_and, f3, f2]; rfl
    unfold vD
    cases hl : lv T N (nd fs so)
    · have no : fstB (tn T N k fi (plz T fi (nd fs so)) (nd fs so)) (T 1) = none := by
        rw [fstB_none]
        intro j hj
        unfold tn
        by_cases hu : unk N (nd fs so) j = true
        · unfold ch
          rw [lv_dead hj (unk_d hu) hl (Or.inl rfl), lv_dead hj (unk_d hu) hl (Or.inr rfl), Bool.false_and, Bool.false_and, Bool.or_self, Bool.and_false]
        · rw [Bool.not_eq_true] at hu
          rw [hu, Bool.false_and]
      rw [no]
      show (if (-1 : Int32) < 0 then _ else _) = _
      rw [if_pos (by decide), if_neg (by decide), if_neg e]
    · have hal : aL T N (nd fs so) (T 1) = true := by
        unfold aL
        rw [anyB_iff]
        exact ⟨f, f1, by rw [hun, lv_kid f1 (unk_d hun) hl]; rfl⟩
      rw [hal, if_pos rfl, aE_tn] at de
      rw [if_pos rfl, de]
      cases hfs : fstB (tn T N k fi (plz T fi (nd fs so)) (nd fs so)) (T 1) with
      | none =>
        rw [fstB_any.mp hfs]
        show (if (-1 : Int32) < 0 then _ else _) = _
        rw [if_pos (by decide), ← hmv2]
        cases plz T fi (nd fs so) <;> rfl
      | some g =>
        obtain ⟨g1, g2, _⟩ := fstB_some.mp hfs
        rw [show anyB (tn T N k fi (plz T fi (nd fs so)) (nd fs so)) (T 1) = true from anyB_iff.mpr ⟨g, g1, g2⟩]
        show (if nI (2 * g + (if ch T N (dv T N k fi) (plz T fi (nd fs so)) (nd fs so + 1 * 3 ^ g) = true then 0 else 1)) < 0 then _ else _) = _
        rw [if_neg (nI_pos (by split <;> omega))]
        cases plz T fi (nd fs so) <;> rfl
theorem and1 (a : Nat) : nI a &&& 1 = nI (a % 2) := by
  rw [nx_a1, bI_n]
  congr 1
  rw [Nat.testBit_zero]
  rcases Nat.mod_two_eq_zero_or_one a with q | q <;> rw [q] <;> rfl
/-- playOut -/
theorem playOut_ok {T N : Nat → Nat} (hW : WT T) (hTh : Th I) {k fi : Nat} (hfi : fi < 2) (hT : TR T N k I) : ∃ r, mX9_playOut 420 (nI fi) (hk σ I L) = some (hk σ (rowUp I 424 r) L) ∧ ∀ fs so, sb fs (fre T N) → sb so fs → r (nd fs so) = nI (vD T N k fi fs so) := by
  have hF := fre_lt (N := N) hW
  have tr : ∀ r, TR T N k (rowUp I 424 r) := fun r => hT.up r (by decide) (by decide)
  have tt : ∀ r, Th (rowUp I 424 r) := fun r => hTh.up r (by decide)
  have inner : ∀ (x s : Nat) (r : Nat → Int32), x < 256 → sb x (fre T N) → s ≤ x → gr (vD T N k fi) (fre T N) r x (s + 1) → ∃ h', mX9_playOut_l21f 420 (nI fi) (nI x) (nI ((fi + pc x) % 2)) (nI s) (hk σ (rowUp I 424 r) L) = some (.inl (nI s + -1, h')) ∧ ∃ r', h' = hk σ (rowUp I 424 r') L ∧ gr (vD T N k fi) (fre T N) r' x s := by
    intro x s r hx hxF hsx hg
    have hs : s < 256 := by omega
    have hn := nd_lt x s
    unfold mX9_playOut_l21f mX9_playOut_b72
    rw [if_neg (nI_pos (show s < 2 ^ 31 by omega)), gI_o 4 (n := 5) rfl, obind, (tr r).1, nx_not (by omega), if_pos (show nI (x ^^^ (x &&& fre T N)) = 0 by rw [sb_iff.mpr hxF]; rfl), nx_not (by omega)]
    by_cases hss : sb s x
    · rw [if_pos (show nI (s ^^^ (s &&& x)) = 0 by rw [sb_iff.mpr hss]; rfl), node_ok (tt r) hx hs, obind, g9, RF_420_3, winner_ok hW (tt r) (tr r) hxF hss fun f q1 q2 => ⟨by rw [rowUp_same]; exact hg _ _ (sb_or hxF q2) (sb_or1 hss) (Or.inl (or_gt q1)), by rw [rowUp_same]; exact hg _ _ (sb_or hxF q2) (sb_or2 hss) (Or.inl (or_gt q1))⟩, obind, put_nI (n := 6561) rfl (by omega) hn, obind, setI_hk, rowUp_two, hpI_hk', rowUp_same]
      exact ⟨_, rfl, _, rfl, grw_put (v := vD T N k fi) hF hxF hss hg⟩
    · rw [if_neg (show ¬ nI (s ^^^ (s &&& x)) = 0 from fun z => hss (sb_iff.mp (by
        have hb : s ^^^ (s &&& x) < 256 := Nat.xor_lt_two_pow (n := 8) hs (Nat.lt_of_le_of_lt Nat.and_le_left hs)
        exact (nI_eq (by omega) (by omega)).mp z)))]
      exact ⟨_, rfl, r, rfl, gr_skip hss hg⟩
  have outer : ∀ (x : Nat) (r : Nat → Int32), x < 256 → gr (vD T N k fi) (fre T N) r (x + 1) 0 → ∃ h', mX9_playOut_l5f 420 (nI fi) (nI x) (hk σ (rowUp I 424 r) L) = some (.inl (nI x + -1, h')) ∧ ∃ r', h' = hk σ (rowUp I 424 r') L ∧ gr (vD T N k fi) (fre T N) r' x 0 := by
    intro x r hx hg
    unfold mX9_playOut_l5f
    rw [if_neg (nI_pos (show x < 2 ^ 31 by omega)), cbits_ok _ hx, obind, nI_add, and1]
    unfold mX9_playOut_l21
    by_cases hxF : sb x (fre T N)
    · obtain ⟨o, e, r', rfl, hr'⟩ := lp_dn (f := fun s : Int32 × Hp => mX9_playOut_l21f 420 (nI fi) (nI x) (nI ((fi + pc x) % 2)) s.1 s.2) (x + 1) (fun m h => ∃ r, h = hk σ (rowUp I 424 r) L ∧ gr (vD T N k fi) (fre T N) r x m)
        (fun o => ∃ r', o = .inl (nI x + -1, hk σ (rowUp I 424 r') L) ∧ gr (vD T N k fi) (fre T N) r' x 0)
        (fun s h hs hQ => by
          obtain ⟨r, rfl, hg⟩ := hQ
          exact inner x s r hx hxF (by omega) hg)
        (fun h hQ => by
          obtain ⟨r, rfl, hg⟩ := hQ
          refine ⟨_, ?_, r, rfl, hg⟩
          show mX9_playOut_l21f 420 (nI fi) (nI x) (nI ((fi + pc x) % 2)) (-1) (hk σ (rowUp I 424 r) L) = _
          unfold mX9_playOut_l21f mX9_playOut_b78
          rw [if_pos (by decide), xts]) (h := hk σ (rowUp I 424 r) L) ⟨r, rfl, gr_next hg⟩
      rw [← nI_as] at e
      exact ⟨_, e, r', rfl, hr'⟩
    · refine ⟨_, lp_inr (r := (Sum.inl (nI x + -1, hk σ (rowUp I 424 r) L) : (Int32 × Hp) ⊕ Hp)) ?_, r, rfl, gr_no hxF hg⟩
      show mX9_playOut_l21f 420 (nI fi) (nI x) (nI ((fi + pc x) % 2)) (nI x) (hk σ (rowUp I 424 r) L) = _
      unfold mX9_playOut_l21f mX9_playOut_b78
      rw [if_neg (nI_pos (show x < 2 ^ 31 by omega)), gI_o 4 (n := 5) rfl, obind, (tr r).1, nx_not (by omega), if_neg (show ¬ nI (x ^^^ (x &&& fre T N)) = 0 from fun z => hxF (sb_iff.mp (by
        have hb : x ^^^ (x &&& fre T N) < 256 := Nat.xor_lt_two_pow (n := 8) hx (Nat.lt_of_le_of_lt Nat.and_le_left hx)
        exact (nI_eq (by omega) (by omega)).mp z))), xts]
  unfold mX9_playOut mX9_playOut_l5
  rw [if_pos s420, gI_o 4 (n := 5) rfl, obind, hT.1]
  obtain ⟨o, e, r', rfl, hr'⟩ := lp_dn (f := fun s : Int32 × Hp => mX9_playOut_l5f 420 (nI fi) s.1 s.2) (fre T N + 1) (fun m h => ∃ r, h = hk σ (rowUp I 424 r) L ∧ gr (vD T N k fi) (fre T N) r m 0)
    (fun o => ∃ r', o = hk σ (rowUp I 424 r') L ∧ gr (vD T N k fi) (fre T N) r' 0 0)
    (fun x h hx hQ => by
      obtain ⟨r, rfl, hg⟩ := hQ
      exact outer x r (by omega) hg)
    (fun h hQ => by
      obtain ⟨r, rfl, hg⟩ := hQ
      refine ⟨_, ?_, r, rfl, hg⟩
      show mX9_playOut_l5f 420 (nI fi) (-1) (hk σ (rowUp I 424 r) L) = _
      unfold mX9_playOut_l5f
      rw [if_pos (by decide), xts]) (h := hk σ (rowUp I 424 (I 424)) L) ⟨I 424, rfl, gr_top⟩
  rw [← nI_as, rowUp_id] at e
  refine ⟨r', e, fun fs so h1 h2 => hr' fs so h1 h2 ?_⟩
  rcases Nat.eq_zero_or_pos fs with q | q
  · exact Or.inr ⟨q, Nat.zero_le _⟩
  · exact Or.inl q
end DuelC
