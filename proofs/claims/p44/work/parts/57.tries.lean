section Tries
variable {σ : Sg} {I I' J I1 I2 : Nat → Nat → Int32} {L L' L1 L2 : Nat → Nat → Int64}
theorem fre_T {T N : Nat → Nat} {fs : Nat} (h : sb fs (fre T N)) {i : Nat} (hi : fs.testBit i = true) : i < T 1 := by
  have := h i hi
  rw [fre_bit, Bool.and_eq_true] at this
  exact of_decide_eq_true this.1
theorem tv_gap {d : Nat → Nat} {n : Nat} : ∀ {m}, n ≤ m → (∀ f, n ≤ f → f < m → d f = 0) → tv d m = tv d n := by
  intro m hnm
  obtain ⟨e, rfl⟩ := Nat.le.dest hnm
  induction e with
  | zero => intro _; rfl
  | succ e ih =>
    intro h
    rw [show n + (e + 1) = (n + e) + 1 from rfl, tvS, h (n + e) (by omega) (by omega), Nat.zero_mul, Nat.add_zero]
    exact ih (by omega) fun f h1 h2 => h f h1 (by omega)
theorem nd_T {T N : Nat → Nat} (hW : WT T) {fs so : Nat} (hf : sb fs (fre T N)) (hs : sb so fs) : nd fs so < 3 ^ T 1 := by
  have w1 := hW.1.2.1
  have z : ∀ s, sb s (fre T N) → ∀ f, T 1 ≤ f → b1 s f = 0 := fun s h f h1 => by
    unfold b1
    cases e : s.testBit f
    · rfl
    · have := fre_T h e; omega
  rw [nd_tv, tv_gap w1 fun f h1 _ => by rw [z fs hf f h1, z so (sb_tr hs hf) f h1]]
  exact tv_lt fun f _ => nd_d hs f
theorem unk_nd {T N : Nat → Nat} (hW : WT T) {fs so f : Nat} (hs : sb so fs) (hf : f < T 1) : unk N (nd fs so) f = (fre T N ^^^ (fre T N &&& fs)).testBit f := by
  have w1 := hW.1.2.1
  unfold unk
  rw [dg_nd _ _ (show f < 8 by omega), Nat.testBit_xor, Nat.testBit_and, fre_bit, decide_eq_true hf, Bool.true_and]
  have := hs f
  unfold b1
  revert this
  cases (knF N).testBit f <;> cases fs.testBit f <;> cases so.testBit f <;> simp
theorem pc_or {s f : Nat} (hf : f < 8) (h0 : s.testBit f = false) : pc (s ||| 2 ^ f) = pc s + 1 := by
  unfold pc
  rw [cntB_two (p := fun i => (s ||| 2 ^ f).testBit i) (q := fun i => s.testBit i) (r := fun i => decide (i = f)) fun i _ => ?_, cntB_one hf fun w _ hw => decide_eq_false hw, decide_eq_true rfl, if_pos rfl]
  refine ⟨tb_or1, ?_⟩
  by_cases e : i = f
  · subst e; rw [h0]; rfl
  · rw [decide_eq_false e, Bool.and_false]
theorem mix_mv {T N : Nat → Nat} {k x : Nat} : (mv (cn (lft T N) (T 1) x) (cn (lw T N k) (T 1) x) = 3) ↔ mix T N k x = true := by
  have le := lw_le (T := T) (N := N) (k := k) (x := x)
  unfold mv mix
  rw [Bool.and_eq_true, decide_eq_true_iff, decide_eq_true_iff]
  by_cases h1 : cn (lw T N k) (T 1) x = 0
  · rw [if_pos h1]
    by_cases h2 : cn (lft T N) (T 1) x = 0
    · rw [if_pos h2]; simp [h1]
    · rw [if_neg h2]; simp [h1]
  · rw [if_neg h1]
    by_cases h2 : cn (lw T N k) (T 1) x = cn (lft T N) (T 1) x
    · rw [if_pos h2]; simp [h2]
    · rw [if_neg h2]; simp [h1, h2]
theorem fre_kn {T N : Nat → Nat} : fre T N &&& knS N = 0 := by
  apply Nat.eq_of_testBit_eq; intro i
  have h1 := congrArg (fun x => x.testBit i) (knS_sub N)
  simp only [Nat.testBit_and] at h1
  rw [Nat.testBit_and, fre_bit, Nat.zero_testBit, ← h1]
  cases decide (i < T 1) <;> cases (knF N).testBit i <;> cases (knS N).testBit i <;> rfl
/-- a mixed node has something untold -/
theorem mix_ex {T N : Nat → Nat} (hW : WT T) {k fs so : Nat} (hf : sb fs (fre T N)) (hs : sb so fs) (hm : mix T N k (nd fs so) = true) : ∃ f, f < T 1 ∧ fs.testBit f = false ∧ (fre T N).testBit f = true := by
  have hF := fre_lt (N := N) hW
  by_cases e : fre T N ^^^ (fre T N &&& fs) = 0
  · exfalso
    have hfe : fs = fre T N := Nat.le_antisymm (sb_le hf) (sb_le (sb_iff.mp e))
    have h1 := mk_mv hW (k := k) hf hs
    rw [hfe, mk_leaf hF (knS_lt N) fre_kn (by rw [← hfe]; exact hs), ← hfe, mix_mv.mpr hm] at h1
    unfold lvT at h1
    split at h1
    · split at h1 <;> omega
    · omega
  · have hu : fre T N ^^^ (fre T N &&& fs) < 256 := Nat.xor_lt_two_pow (n := 8) hF (Nat.lt_of_le_of_lt Nat.and_le_left hF)
    obtain ⟨f, hf8, hfu, _⟩ := lowb' hu e
    rw [Nat.testBit_xor, Nat.testBit_and] at hfu
    have h2 : (fre T N).testBit f = true ∧ fs.testBit f = false := by
      revert hfu
      cases (fre T N).testBit f <;> cases fs.testBit f <;> simp
    have h3 := h2.1
    rw [fre_bit, Bool.and_eq_true] at h3
    exact ⟨f, of_decide_eq_true h3.1, h2.2, h2.1⟩
theorem bt8 {T N : Nat → Nat} (hW : WT T) {k : Nat} : ∀ d fs so, sb fs (fre T N) → sb so fs → 8 - pc fs ≤ d → btr T N k (nd fs so) + pc fs ≤ 8 := by
  have w1 := hW.1.2.1
  intro d
  induction d with
  | zero =>
    intro fs so hf hs hd
    have p := pc_le fs
    rw [btr_eq (nd_T hW hf hs)]
    by_cases hm : mix T N k (nd fs so) = true
    · obtain ⟨f, f1, f2, f3⟩ := mix_ex hW hf hs hm
      have := pc_or (s := fs) (show f < 8 by omega) f2
      have := pc_le (fs ||| 2 ^ f)
      omega
    · rw [if_neg hm]; omega
  | succ d ih =>
    intro fs so hf hs hd
    have p := pc_le fs
    rw [btr_eq (nd_T hW hf hs)]
    by_cases hm : mix T N k (nd fs so) = true
    · obtain ⟨f, f1, f2, f3⟩ := mix_ex hW hf hs hm
      have hf8 : f < 8 := by omega
      have e := pc_or (s := fs) hf8 f2
      have p2 := pc_le (fs ||| 2 ^ f)
      have c1 := ih (fs ||| 2 ^ f) so (sb_or hf f3) (sb_or1 hs) (by omega)
      have c2 := ih (fs ||| 2 ^ f) (so ||| 2 ^ f) (sb_or hf f3) (sb_or2 hs) (by omega)
      rw [nd_or1 hf8 f2] at c1
      rw [nd_or2 hf8 f2 hs] at c2
      have hu : unk N (nd fs so) f = true := by
        rw [unk_nd hW hs f1, Nat.testBit_xor, Nat.testBit_and, f3, f2]; rfl
      have := mnf_le (g := gt T N k (nd fs so)) (p := unk N (nd fs so)) (z := 9) f1 hu
      rw [if_pos hm]
      have g : gt T N k (nd fs so) f = 1 + max (btr T N k (nd fs so + 3 ^ f)) (btr T N k (nd fs so + 2 * 3 ^ f)) := by unfold gt; rw [Nat.one_mul]
      omega
    · rw [if_neg hm]; omega
/-- the class: trials by one fact -/
theorem trialsBy_ok {T N : Nat → Nat} (hW : WT T) (hTh : Th I) {k fs so f : Nat} (hf : sb fs (fre T N)) (hs : sb so fs) (f1 : f < T 1) (f2 : fs.testBit f = false) (f3 : (fre T N).testBit f = true)
    (h1 : I 424 (nd (fs ||| 2 ^ f) so) = nI (btr T N k (nd (fs ||| 2 ^ f) so))) (h2 : I 424 (nd (fs ||| 2 ^ f) (so ||| 2 ^ f)) = nI (btr T N k (nd (fs ||| 2 ^ f) (so ||| 2 ^ f)))) :
    mX9_trialsBy 420 (nI f) (nI (nd fs so)) (hk σ I L) = some (nI (gt T N k (nd fs so) f)) := by
  have w1 := hW.1.2.1
  have hf8 : f < 8 := by omega
  have hp2 : 2 ^ f < 256 := Nat.pow_lt_pow_right (a := 2) (by omega) hf8
  have l1 := nd_lt (fs ||| 2 ^ f) so
  have l2 := nd_lt (fs ||| 2 ^ f) (so ||| 2 ^ f)
  have c1 := btr_le (N := N) (k := k) (nd_T hW (sb_or hf f3) (sb_or1 (f := f) hs))
  have c2 := btr_le (N := N) (k := k) (nd_T hW (sb_or hf f3) (sb_or2 (f := f) hs))
  rw [nd_or1 hf8 f2] at h1 l1 c1
  rw [nd_or2 hf8 f2 hs] at h2 l2 c2
  unfold mX9_trialsBy
  rw [if_pos s420, g9, RF_420_0, shl1 (by omega), at_r (n := 256) rfl hp2 (by omega), obind, hTh _ hp2, th_1 hf8, g9, RF_420_3, nI_add, at_r (n := 6561) rfl l1 (by omega), obind, g9, RF_420_3, show (2 : Int32) = nI 2 from rfl, pk_mul, nI_add, at_r (n := 6561) rfl l2 (by omega), obind, h1, h2, max_d (by omega) (by omega), show (1 : Int32) = nI 1 from rfl, nI_add]
  unfold gt
  rw [Nat.one_mul]
theorem fewest_ok {T N : Nat → Nat} (hW : WT T) (hTh : Th I) {k fs so : Nat} (h4 : I 420 4 = nI (fre T N)) (hf : sb fs (fre T N)) (hs : sb so fs) (hm : mix T N k (nd fs so) = true)
    (hr : ∀ f, fs.testBit f = false → (fre T N).testBit f = true → I 424 (nd (fs ||| 2 ^ f) so) = nI (btr T N k (nd (fs ||| 2 ^ f) so)) ∧ I 424 (nd (fs ||| 2 ^ f) (so ||| 2 ^ f)) = nI (btr T N k (nd (fs ||| 2 ^ f) (so ||| 2 ^ f)))) :
    mX9_fewestTrials 420 (nI fs) (nI (nd fs so)) (hk σ I L) = some (nI (btr T N k (nd fs so))) := by
  have w1 := hW.1.2.1
  have hF := fre_lt (N := N) hW
  have hu : fre T N ^^^ (fre T N &&& fs) < 256 := Nat.xor_lt_two_pow (n := 8) hF (Nat.lt_of_le_of_lt Nat.and_le_left hF)
  obtain ⟨p', hp'⟩ : ∃ p', p' = fun f => (fre T N ^^^ (fre T N &&& fs)).testBit f := ⟨_, rfl⟩
  have val : mnf (gt T N k (nd fs so)) p' 8 8 = btr T N k (nd fs so) := by
    have b := bt8 hW (k := k) 8 fs so hf hs (by omega)
    have g1 : mnf (gt T N k (nd fs so)) p' 8 8 = mnf (gt T N k (nd fs so)) p' 8 (T 1) := mnf_gap w1 fun f h1 _ => by
      rw [hp']
      show (fre T N ^^^ (fre T N &&& fs)).testBit f = false
      rw [Nat.testBit_xor, Nat.testBit_and, fre_bit, decide_eq_false (show ¬ f < T 1 by omega)]; rfl
    have g2 : mnf (gt T N k (nd fs so)) p' 8 (T 1) = mnf (gt T N k (nd fs so)) (unk N (nd fs so)) (min 8 9) (T 1) := mnf_congr fun f h1 => ⟨by rw [unk_nd hW hs h1, hp'], fun _ => rfl⟩
    rw [g1, g2, mnf_min]
    rw [btr_eq (nd_T hW hf hs), if_pos hm] at b ⊢
    omega
  unfold mX9_fewestTrials mX9_fewestTrials_l6
  rw [if_pos s420]
  refine lp_traj (f := fun s : Int32 × Int32 => mX9_fewestTrials_l6f 420 (nI fs) (nI (nd fs so)) (hk σ I L) s.1 s.2) 8 (fun i => (nI (mnf (gt T N k (nd fs so)) p' 8 i), nI i)) _ (fun i hi => ?_) ?_
  · show mX9_fewestTrials_l6f 420 (nI fs) (nI (nd fs so)) (hk σ I L) (nI (mnf (gt T N k (nd fs so)) p' 8 i)) (nI i) = some (Sum.inl (nI (if p' i = true then min (mnf (gt T N k (nd fs so)) p' 8 i) (gt T N k (nd fs so) i) else mnf (gt T N k (nd fs so)) p' 8 i), nI (i + 1)))
    have zc := mnf_z (g := gt T N k (nd fs so)) (p := p') (z := 8) i
    unfold mX9_fewestTrials_l6f mX9_fewestTrials_b41
    rw [c_lt8 hi, gI_o 4 (n := 5) rfl, obind, h4, nx_not (by omega), has_nI (by omega) (by omega), obind, bI_if0, nI_1, show p' i = (fre T N ^^^ (fre T N &&& fs)).testBit i by rw [hp']]
    cases q : (fre T N ^^^ (fre T N &&& fs)).testBit i
    · rw [if_pos rfl, if_neg (by decide)]
    · rw [if_neg nTF, if_pos rfl]
      rw [Nat.testBit_xor, Nat.testBit_and] at q
      have h2 : (fre T N).testBit i = true ∧ fs.testBit i = false := by
        revert q
        cases (fre T N).testBit i <;> cases fs.testBit i <;> simp
      have f1 : i < T 1 := by
        have h3 := h2.1
        rw [fre_bit, Bool.and_eq_true] at h3
        exact of_decide_eq_true h3.1
      obtain ⟨r1, r2⟩ := hr i h2.2 h2.1
      have c1 := btr_le (N := N) (k := k) (nd_T hW (sb_or hf h2.1) (sb_or1 (f := i) hs))
      have c2 := btr_le (N := N) (k := k) (nd_T hW (sb_or hf h2.1) (sb_or2 (f := i) hs))
      rw [nd_or1 (by omega) h2.2] at c1
      rw [nd_or2 (by omega) h2.2 hs] at c2
      have gb : gt T N k (nd fs so) i ≤ 10 := by unfold gt; rw [Nat.one_mul]; omega
      rw [trialsBy_ok hW hTh hf hs f1 h2.2 h2.1 r1 r2, obind, min_d (by omega) (by omega)]
  · show mX9_fewestTrials_l6f 420 (nI fs) (nI (nd fs so)) (hk σ I L) (nI (mnf (gt T N k (nd fs so)) p' 8 8)) (nI 8) = _
    unfold mX9_fewestTrials_l6f
    rw [if_neg (by decide), xts, val]
end Tries
