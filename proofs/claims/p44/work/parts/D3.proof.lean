/-! PROOFS, by worlds -/
section D3
variable {T N : Nat → Nat} {k f how so fs x : Nat} {wn : Bool}
theorem cn_nd (hW : WT T) (hf : sb fs (fre T N)) (hs : sb so fs) (P : Nat → Bool) : cn P (T 1) (nd fs so) = cntB (fun w => P w && decide (w &&& fs = so)) 256 := by
  have w1 := hW.1.2.1
  refine cntB_congr fun w _ => ?_
  rw [agw_nd w1 (fun i hi => fre_T hf hi) hs]
theorem lv_iff (hW : WT T) (hf : sb fs (fre T N)) (hs : sb so fs) : lv T N (nd fs so) = true ↔ ∃ w, w < 256 ∧ lft T N w = true ∧ w &&& fs = so := by
  unfold lv
  rw [cn_nd hW hf hs]
  constructor
  · intro h
    have h := of_decide_eq_true h
    rw [Ne, cntB_0, Bool.not_eq_false] at h
    obtain ⟨w, hw, h2⟩ := anyB_iff.mp h
    rw [Bool.and_eq_true] at h2
    exact ⟨w, hw, h2.1, of_decide_eq_true h2.2⟩
  · rintro ⟨w, hw, h1, h2⟩
    refine decide_eq_true fun z => ?_
    rw [cntB_0] at z
    rw [anyB_iff.mpr ⟨w, hw, by rw [h1, decide_eq_true h2]; rfl⟩] at z
    cases z
theorem prv_iff (hW : WT T) (hf : sb fs (fre T N)) (hs : sb so fs) : prv T N k wn (nd fs so) = true ↔ ∀ w, w < 256 → lft T N w = true → w &&& fs = so → won T (it N k 0) w = wn := by
  unfold prv
  rw [cn_nd hW hf hs, cn_nd hW hf hs]
  cases wn
  · rw [if_neg (by decide)]
    constructor
    · intro h w hw h1 h2
      have h := of_decide_eq_true h
      rw [cntB_0] at h
      cases q : won T (it N k 0) w
      · rfl
      · rw [anyB_iff.mpr ⟨w, hw, by unfold lw; rw [h1, q, decide_eq_true h2]; rfl⟩] at h
        cases h
    · intro h
      refine decide_eq_true (cntB_0.mpr (Bool.eq_false_iff.mpr fun z => ?_))
      obtain ⟨w, hw, h2⟩ := anyB_iff.mp z
      unfold lw at h2
      rw [Bool.and_eq_true, Bool.and_eq_true] at h2
      have := h w hw h2.1.1 (of_decide_eq_true h2.2)
      rw [h2.1.2] at this; cases this
  · rw [if_pos rfl]
    constructor
    · intro h w hw h1 h2
      have h := of_decide_eq_true h
      have := cnt_back (p := fun w => lw T N k w && decide (w &&& fs = so)) (q := fun w => lft T N w && decide (w &&& fs = so)) (fun v _ hv => by
        have hv : (lw T N k v && decide (v &&& fs = so)) = true := hv
        rw [Bool.and_eq_true] at hv
        show (lft T N v && decide (v &&& fs = so)) = true
        rw [lw_l hv.1, hv.2]; rfl) h w hw (by show (lft T N w && decide (w &&& fs = so)) = true; rw [h1, decide_eq_true h2]; rfl)
      have this : (lw T N k w && decide (w &&& fs = so)) = true := this
      rw [Bool.and_eq_true] at this
      have h3 := this.1
      unfold lw at h3
      rw [Bool.and_eq_true] at h3
      exact h3.2
    · intro h
      refine decide_eq_true (cntB_congr fun w hw => ?_)
      cases q : lft T N w
      · unfold lw; rw [q]; rfl
      · by_cases e : w &&& fs = so
        · unfold lw; rw [q, h w hw q e, Bool.true_and]
        · rw [decide_eq_false e, Bool.and_false, Bool.and_false]
theorem sb_rmv (h : sb fs (fre T N)) : sb (rmv fs f) (fre T N) := fun i hi => h i (rmv_sb i hi)
/-- what a proof is -/
theorem kq_is (hW : WT T) {c : Nat} (h : kq T N k wn c = true) : sb (kf c) (fre T N) ∧ sb (ks c) (kf c) ∧ (∃ w, w < 256 ∧ lft T N w = true ∧ w &&& kf c = ks c) ∧ (∀ w, w < 256 → lft T N w = true → w &&& kf c = ks c → won T (it N k 0) w = wn) ∧
    ∀ f, (kf c).testBit f = true → ∃ w, w < 256 ∧ lft T N w = true ∧ w &&& rmv (kf c) f = rmv (ks c) f ∧ won T (it N k 0) w = !wn := by
  unfold kq at h
  rw [Bool.and_eq_true] at h
  obtain ⟨_, hf, hs⟩ := kv_iff.mp h.1
  have h2 := h.2
  unfold pf at h2
  rw [Bool.and_eq_true, Bool.and_eq_true] at h2
  obtain ⟨⟨h3, h4⟩, h5⟩ := h2
  refine ⟨hf, hs, (lv_iff hW hf hs).mp h3, (prv_iff hW hf hs).mp h4, fun f hfb => ?_⟩
  have h6 := allB_iff.mp h5 f (fre_T hf hfb)
  rw [hfb, Bool.true_and, Bool.not_eq_true'] at h6
  have hp := prv_iff (k := k) (wn := wn) hW (sb_rmv (f := f) hf) (rmv_sb2 (f := f) hs)
  rw [h6] at hp
  apply Classical.byContradiction
  intro hn
  have : false = true := hp.mpr fun w hw h1 h2 => by
    cases q : won T (it N k 0) w <;> cases wn
    · rfl
    · exact absurd ⟨w, hw, h1, h2, q⟩ hn
    · exact absurd ⟨w, hw, h1, h2, q⟩ hn
    · rfl
  cases this
theorem sb_of0 (h : sb so 0) : so = 0 := by
  apply Nat.eq_of_testBit_eq
  intro i
  rw [Nat.zero_testBit]
  cases q : so.testBit i
  · rfl
  · have := h i q; rw [Nat.zero_testBit] at this; cases this
theorem kq_0 (hW : WT T) (hN : WN T N) (h : ∀ w, w < 256 → lft T N w = true → won T (it N k 0) w = wn) : kq T N k wn 0 = true := by
  unfold kq
  have e1 : kf 0 = 0 := by decide
  have e2 : ks 0 = 0 := by decide
  rw [e1, e2]
  have h1 : kv (fre T N) 0 = true := kv_iff.mpr ⟨by rw [e1]; decide, by rw [e1]; exact sb_0 _, by rw [e1, e2]; exact sb_0 _⟩
  rw [h1, Bool.true_and]
  unfold pf
  rw [nd_00, lv_root hN, Bool.true_and, Bool.and_eq_true]
  refine ⟨?_, allB_iff.mpr fun f _ => by rw [Nat.zero_testBit]; rfl⟩
  have := (prv_iff (T := T) (N := N) (k := k) (wn := wn) hW (sb_0 (fre T N)) (sb_0 0)).mpr fun w hw h1 _ => h w hw h1
  rw [nd_00] at this; exact this
theorem kq_only (hW : WT T) {c : Nat} (hc : c < 589824) (h : ∀ w, w < 256 → lft T N w = true → won T (it N k 0) w = wn) (hq : kq T N k wn c = true) : c = 0 := by
  obtain ⟨q1, q2, _, _, q5⟩ := kq_is hW hq
  have hf : kf c = 0 := by
    apply Nat.eq_of_testBit_eq
    intro i
    rw [Nat.zero_testBit]
    cases q : (kf c).testBit i
    · rfl
    · obtain ⟨w, hw, h1, _, h3⟩ := q5 i q
      rw [h w hw h1] at h3
      cases wn <;> cases h3
  rw [hf] at q2
  have hs := sb_of0 q2
  unfold kq at hq
  rw [Bool.and_eq_true] at hq
  have h1 := (kv_iff.mp hq.1).1
  rw [hf, show pc 0 = 0 by decide] at h1
  unfold kf at hf
  unfold ks at hs
  omega
theorem kq_sure (hW : WT T) (hN : WN T N) (h : ∀ w, w < 256 → lft T N w = true → won T (it N k 0) w = wn) : cntB (kq T N k wn) 589824 = 1 := by
  rw [cntB_one (v := 0) (by omega) fun c hc hne => Bool.eq_false_iff.mpr fun q => hne (kq_only hW hc h q), kq_0 hW hN h, if_pos rfl]
theorem kq_not (hW : WT T) (h : ∀ w, w < 256 → lft T N w = true → won T (it N k 0) w = !wn) : cntB (kq T N k wn) 589824 = 0 := by
  rw [cntB_0]
  refine Bool.eq_false_iff.mpr fun z => ?_
  obtain ⟨c, _, hq⟩ := anyB_iff.mp z
  obtain ⟨_, _, ⟨w, hw, h1, h2⟩, q4, _⟩ := kq_is hW hq
  have := q4 w hw h1 h2
  rw [h w hw h1] at this
  cases wn <;> cases this
/-- a proof there is where one world is so -/
theorem kq_min (hW : WT T) : ∀ m fs so, pc fs ≤ m → sb fs (fre T N) → sb so fs → (∃ w, w < 256 ∧ lft T N w = true ∧ w &&& fs = so) → (∀ w, w < 256 → lft T N w = true → w &&& fs = so → won T (it N k 0) w = wn) → ∃ fs so, sb fs (fre T N) ∧ sb so fs ∧ pf T N k wn fs so = true := by
  have w1 := hW.1.2.1
  intro m
  induction m with
  | zero =>
    intro fs so hm hf hs h1 h2
    refine ⟨fs, so, hf, hs, ?_⟩
    unfold pf
    rw [(lv_iff hW hf hs).mpr h1, (prv_iff hW hf hs).mpr h2, Bool.true_and, Bool.true_and]
    refine allB_iff.mpr fun f hf' => ?_
    cases q : fs.testBit f
    · rfl
    · have h0 : pc fs = 0 := by omega
      unfold pc at h0
      rw [cntB_0] at h0
      rw [anyB_iff.mpr ⟨f, by omega, q⟩] at h0; cases h0
  | succ m ih =>
    intro fs so hm hf hs h1 h2
    by_cases hx : ∃ f, f < T 1 ∧ fs.testBit f = true ∧ prv T N k wn (nd (rmv fs f) (rmv so f)) = true
    · obtain ⟨f, f1, f2, f3⟩ := hx
      have hp := (prv_iff hW (sb_rmv hf) (rmv_sb2 hs)).mp f3
      obtain ⟨w, hw, a1, a2⟩ := h1
      have e := pc_or (s := rmv fs f) (show f < 8 by omega) (rmv_f fs f)
      rw [rmv_or f2] at e
      refine ih (rmv fs f) (rmv so f) (by omega) (sb_rmv hf) (rmv_sb2 hs) ⟨w, hw, a1, ?_⟩ hp
      apply Nat.eq_of_testBit_eq
      intro i
      rw [Nat.testBit_and, rmv_bit, rmv_bit, ← a2, Nat.testBit_and]
      cases w.testBit i <;> cases fs.testBit i <;> cases decide (i = f) <;> rfl
    · refine ⟨fs, so, hf, hs, ?_⟩
      unfold pf
      rw [(lv_iff hW hf hs).mpr h1, (prv_iff hW hf hs).mpr h2, Bool.true_and, Bool.true_and]
      refine allB_iff.mpr fun f hf' => ?_
      cases q : fs.testBit f
      · rfl
      · cases q2 : prv T N k wn (nd (rmv fs f) (rmv so f))
        · rfl
        · exact absurd ⟨f, hf', q, q2⟩ hx
theorem sb_and1 (w fs : Nat) : sb (w &&& fs) fs := fun i hi => by
  rw [Nat.testBit_and, Bool.and_eq_true] at hi; exact hi.2
theorem lft_hi8 {w : Nat} (h : lft T N w = true) : w < 2 ^ T 1 := by
  unfold lft agr poss at h
  rw [Bool.and_eq_true, Bool.and_eq_true] at h
  exact of_decide_eq_true h.1.1
/-- left worlds that agree where nothing is known are one -/
theorem lft_one {w v : Nat} (h1 : lft T N w = true) (h2 : lft T N v = true) (h : w &&& fre T N = v &&& fre T N) : w = v := by
  have a1 := lft_hi8 h1
  have a2 := lft_hi8 h2
  unfold lft agr at h1 h2
  rw [Bool.and_eq_true] at h1 h2
  have k1 := of_decide_eq_true h1.2
  have k2 := of_decide_eq_true h2.2
  apply Nat.eq_of_testBit_eq
  intro i
  by_cases hi : i < T 1
  · have e1 := congrArg (fun z => z.testBit i) h
    have e2 := congrArg (fun z => z.testBit i) (k1.trans k2.symm)
    simp only [Nat.testBit_and] at e1 e2
    rw [fre_bit, decide_eq_true hi, Bool.true_and] at e1
    revert e1 e2
    cases w.testBit i <;> cases v.testBit i <;> cases (knF N).testBit i <;> simp
  · rw [Nat.testBit_lt_two_pow (Nat.lt_of_lt_of_le a1 (Nat.pow_le_pow_right (by omega) (by omega))), Nat.testBit_lt_two_pow (Nat.lt_of_lt_of_le a2 (Nat.pow_le_pow_right (by omega) (by omega)))]
theorem kq_some (hW : WT T) (h : ∃ w, w < 256 ∧ lft T N w = true ∧ won T (it N k 0) w = wn) : 0 < cntB (kq T N k wn) 589824 := by
  obtain ⟨w, hw, h1, h2⟩ := h
  obtain ⟨fs, so, q1, q2, q3⟩ := kq_min (k := k) (wn := wn) hW (pc (fre T N)) (fre T N) (w &&& fre T N) (Nat.le_refl _) (fun _ h => h) (sb_and1 _ _) ⟨w, hw, h1, rfl⟩ fun v hv g1 g2 => by rw [lft_one g1 h1 g2]; exact h2
  have f8 := Nat.lt_of_le_of_lt (sb_le q1) (fre_lt (N := N) hW)
  have s8 := Nat.lt_of_le_of_lt (sb_le q2) f8
  have p8 := pc_le fs
  obtain ⟨c, hc⟩ : ∃ c, c = pc fs * 65536 + fs * 256 + so := ⟨_, rfl⟩
  have ec : kf c = fs := by unfold kf; omega
  have es : ks c = so := by unfold ks; omega
  have em : c / 65536 = pc fs := by omega
  refine Nat.pos_of_ne_zero fun z => ?_
  rw [cntB_0] at z
  have hq : kq T N k wn c = true := by
    unfold kq
    rw [ec, es, q3, kv_iff.mpr ⟨by rw [ec, em], by rw [ec]; exact q1, by rw [ec, es]; exact q2⟩]; rfl
  rw [anyB_iff.mpr ⟨c, by omega, hq⟩] at z
  cases z
theorem how_2 (h1 : ∃ w, w < 256 ∧ lft T N w = true ∧ won T (it N k 0) w = true) (h0 : ∃ w, w < 256 ∧ lft T N w = true ∧ won T (it N k 0) w = false) : how3 (lft T N) (won T (it N k 0)) = 2 := by
  obtain ⟨w, hw, a1, a2⟩ := h1
  obtain ⟨v, hv, b1, b2⟩ := h0
  unfold how3
  rw [if_neg (fun z => by have := allB_iff.mp z v hv; rw [b1, b2] at this; cases this), if_pos (anyB_iff.mpr ⟨w, hw, by rw [a1, a2]; rfl⟩)]
theorem how_1 (h : ∀ w, w < 256 → lft T N w = true → won T (it N k 0) w = true) : how3 (lft T N) (won T (it N k 0)) = 1 := by
  unfold how3
  have e : allB (fun w => !lft T N w || won T (it N k 0) w) 256 = true := allB_iff.mpr fun w hw => by
    cases q : lft T N w
    · rfl
    · rw [h w hw q]; rfl
  rw [if_pos e]
theorem how_0 (hN : WN T N) (h : ∀ w, w < 256 → lft T N w = true → won T (it N k 0) w = false) : how3 (lft T N) (won T (it N k 0)) = 0 := by
  obtain ⟨v, hv, b1⟩ := hN.2.2.2.2.2
  unfold how3
  rw [if_neg (fun z => by have := allB_iff.mp z v hv; rw [b1, h v hv b1] at this; cases this), if_neg (fun z => by
    obtain ⟨w, hw, h2⟩ := anyB_iff.mp z
    rw [Bool.and_eq_true] at h2
    rw [h w hw h2.1] at h2; cases h2.2)]
theorem mix_both (hm : mix T N k 0 = true) (b : Bool) : ∃ w, w < 256 ∧ lft T N w = true ∧ won T (it N k 0) w = b := by
  unfold mix at hm
  rw [Bool.and_eq_true] at hm
  have h1 := of_decide_eq_true hm.1
  have h2 := of_decide_eq_true hm.2
  rw [cn_0] at h1 h2
  rw [cn_0] at h2
  cases b
  · apply Classical.byContradiction
    intro hn
    apply h2
    refine cntB_congr fun w hw => ?_
    unfold lw
    cases q : lft T N w
    · rfl
    · cases q2 : won T (it N k 0) w
      · exact absurd ⟨w, hw, q, q2⟩ hn
      · rfl
  · rw [Ne, cntB_0, Bool.not_eq_false] at h1
    obtain ⟨w, hw, h3⟩ := anyB_iff.mp h1
    unfold lw at h3
    rw [Bool.and_eq_true] at h3
    exact ⟨w, hw, h3.1, h3.2⟩
end D3
