/-! WHAT IS SURE OF A COUNT, and what its trees say -/
section D2
variable {T N : Nat → Nat} {k f how so x : Nat}
theorem cnt_back {p q : Nat → Bool} : ∀ {n : Nat}, (∀ w, w < n → p w = true → q w = true) → cntB p n = cntB q n → ∀ w, w < n → q w = true → p w = true
  | 0, _, _, w, hw, _ => by omega
  | n + 1, hs, he, w, hw, hq => by
    have le := cntB_leq (p := p) (q := q) (n := n) fun w hw => hs w (by omega)
    rw [cntS, cntS] at he
    have hn := hs n (by omega)
    by_cases e : w = n
    · subst e
      cases hp : p w
      · rw [hp, hq, if_neg (by decide), if_pos rfl] at he; omega
      · rfl
    · have he2 : cntB p n = cntB q n := by
        cases hp : p n
        · rw [hp, if_neg (by decide)] at he; split at he <;> omega
        · rw [hp, hn hp] at he; omega
      exact cnt_back (fun w hw => hs w (by omega)) he2 w (by omega) hq
theorem lw_l {w : Nat} (h : lw T N k w = true) : lft T N w = true := by unfold lw at h; rw [Bool.and_eq_true] at h; exact h.1
/-- what is sure, by how many are left and won -/
theorem how_cases (hN : WN T N) : (how3 (lft T N) (won T (it N k 0)) = 1 ∧ cn (lw T N k) (T 1) 0 = cn (lft T N) (T 1) 0 ∧ mix T N k 0 = false) ∨ (how3 (lft T N) (won T (it N k 0)) = 0 ∧ cn (lw T N k) (T 1) 0 = 0 ∧ mix T N k 0 = false) ∨
    (how3 (lft T N) (won T (it N k 0)) = 2 ∧ mix T N k 0 = true) := by
  unfold how3
  by_cases h1 : allB (fun w => !lft T N w || won T (it N k 0) w) 256 = true
  · left
    rw [if_pos h1]
    have e : cn (lw T N k) (T 1) 0 = cn (lft T N) (T 1) 0 := by
      rw [cn_0, cn_0]
      refine cntB_congr fun w hw => ?_
      have := allB_iff.mp h1 w hw
      unfold lw
      revert this
      cases lft T N w <;> cases won T (it N k 0) w <;> simp
    refine ⟨rfl, e, ?_⟩
    unfold mix
    rw [e, decide_eq_false (show ¬ (cn (lft T N) (T 1) 0 ≠ cn (lft T N) (T 1) 0) from fun q => q rfl), Bool.and_false]
  · rw [if_neg h1]
    right
    by_cases h2 : anyB (fun w => lft T N w && won T (it N k 0) w) 256 = true
    · right
      rw [if_pos h2]
      refine ⟨rfl, ?_⟩
      unfold mix
      rw [Bool.and_eq_true]
      refine ⟨decide_eq_true fun z => ?_, decide_eq_true fun z => h1 ?_⟩
      · rw [cn_0, cntB_0] at z
        have z : anyB (fun w => lft T N w && won T (it N k 0) w) 256 = false := z
        rw [z] at h2; cases h2
      · rw [cn_0, cn_0] at z
        refine allB_iff.mpr fun w hw => ?_
        cases q : lft T N w
        · rfl
        · have := cnt_back (fun w _ h => lw_l h) z w hw q
          unfold lw at this
          rw [Bool.and_eq_true] at this
          rw [this.2, Bool.or_true]
    · left
      rw [if_neg h2]
      have e : cn (lw T N k) (T 1) 0 = 0 := by
        rw [cn_0, cntB_0]
        exact Bool.eq_false_iff.mpr h2
      refine ⟨rfl, e, ?_⟩
      unfold mix
      rw [e, decide_eq_false (show ¬ ((0 : Nat) ≠ 0) from fun q => q rfl), Bool.false_and]
/-- counts of those that agree, of fewer worlds no more -/
theorem all_same (h : cn (lw T N k) (T 1) 0 = cn (lft T N) (T 1) 0) (x : Nat) : cn (lw T N k) (T 1) x = cn (lft T N) (T 1) x := by
  rw [cn_0, cn_0] at h
  refine cntB_congr fun w hw => ?_
  have e : lw T N k w = lft T N w := by
    cases q : lft T N w
    · cases q2 : lw T N k w
      · rfl
      · rw [lw_l q2] at q; cases q
    · exact cnt_back (fun w _ h => lw_l h) h w hw q
  rw [e]
theorem none_same (h : cn (lw T N k) (T 1) 0 = 0) (x : Nat) : cn (lw T N k) (T 1) x = 0 := by
  rw [cn_0, cntB_0] at h
  unfold cn
  rw [cntB_0]
  refine Bool.eq_false_iff.mpr fun q => ?_
  obtain ⟨w, hw, h2⟩ := anyB_iff.mp q
  rw [Bool.and_eq_true] at h2
  rw [anyB_iff.mpr ⟨w, hw, h2.1⟩] at h
  cases h
theorem btr_0 (hW : WT T) (h : mix T N k 0 = false) : btr T N k 0 = 0 := by
  rw [btr_eq (p3_pos _), h, if_neg (by decide)]
theorem btr_pos (h : mix T N k 0 = true) : 0 < btr T N k 0 := by
  rw [btr_eq (p3_pos _), if_pos h]
  exact mnf_pos (by omega) (fun f => by unfold gt; omega) _
/-- no more trials than facts that aren't known -/
theorem btF (hW : WT T) : ∀ d fs so, sb fs (fre T N) → sb so fs → pc (fre T N) - pc fs ≤ d → btr T N k (nd fs so) + pc fs ≤ pc (fre T N) := by
  have w1 := hW.1.2.1
  have pcm : ∀ fs, sb fs (fre T N) → pc fs ≤ pc (fre T N) := fun fs h => cntB_leq fun i _ hi => h i hi
  intro d
  induction d with
  | zero =>
    intro fs so hf hs hd
    have p := pcm fs hf
    rw [btr_eq (nd_T hW hf hs)]
    by_cases hm : mix T N k (nd fs so) = true
    · obtain ⟨f, f1, f2, f3⟩ := mix_ex hW hf hs hm
      have := pc_or (s := fs) (show f < 8 by omega) f2
      have := pcm (fs ||| 2 ^ f) (sb_or hf f3)
      omega
    · rw [if_neg hm]; omega
  | succ d ih =>
    intro fs so hf hs hd
    have p := pcm fs hf
    rw [btr_eq (nd_T hW hf hs)]
    by_cases hm : mix T N k (nd fs so) = true
    · obtain ⟨f, f1, f2, f3⟩ := mix_ex hW hf hs hm
      have hf8 : f < 8 := by omega
      have e := pc_or (s := fs) hf8 f2
      have p2 := pcm (fs ||| 2 ^ f) (sb_or hf f3)
      have c1 := ih (fs ||| 2 ^ f) so (sb_or hf f3) (sb_or1 hs) (by omega)
      have c2 := ih (fs ||| 2 ^ f) (so ||| 2 ^ f) (sb_or hf f3) (sb_or2 hs) (by omega)
      rw [nd_or1 hf8 f2] at c1
      rw [nd_or2 hf8 f2 hs] at c2
      have hu : unk N (nd fs so) f = true := by
        rw [unk_nd hW hs f1, Nat.testBit_xor, Nat.testBit_and, f3, f2]; rfl
      have := mnf_le (g := gt T N k (nd fs so)) (p := unk N (nd fs so)) (z := 9) f1 hu
      rw [if_pos hm]
      have g : gt T N k (nd fs so) f = 1 + max (btr T N k (nd fs so + 3 ^ f)) (btr T N k (nd fs so + 2 * 3 ^ f)) := by unfold gt; rw [Nat.one_mul]
      omega
    · rw [if_neg hm]; omega
theorem btr_fre (hW : WT T) : btr T N k 0 ≤ pc (fre T N) := by
  have := btF hW (k := k) (N := N) _ 0 0 (sb_0 _) (sb_0 _) (Nat.le_refl _)
  rw [nd_00] at this
  have p0 : pc 0 = 0 := by decide
  omega
/-- the first trial: both its ways take one less at most, and one of them just that -/
theorem ftr_ok (hW : WT T) (hm : mix T N k 0 = true) : ∃ f, ftr T N k = some f ∧ f < T 1 ∧ kn N f = false ∧ max (btr T N k (1 * 3 ^ f)) (btr T N k (2 * 3 ^ f)) + 1 = btr T N k 0 := by
  have w1 := hW.1.2.1
  have beq : btr T N k 0 = mnf (gt T N k 0) (unk N 0) 9 (T 1) := by rw [btr_eq (p3_pos _), if_pos hm]
  have b8 := btr_fre (N := N) (k := k) hW
  have p8 := pc_le (fre T N)
  obtain ⟨fa, fa1, fa2, fa3⟩ := mnf_at (g := gt T N k 0) (p := unk N 0) (z := 9) (n := T 1) (by rw [← beq]; omega)
  rw [← beq] at fa3
  unfold ftr
  cases hfs : fstB (fun f => (fre T N).testBit f && decide (gt T N k 0 f = btr T N k 0)) (T 1) with
  | none =>
    have := fstB_none.mp hfs fa fa1
    rw [← uk0 hW fa1, fa2, decide_eq_true fa3] at this; cases this
  | some f0 =>
    obtain ⟨g1, g2, g3⟩ := fstB_some.mp hfs
    rw [Bool.and_eq_true] at g2
    have g2b := of_decide_eq_true g2.2
    have g2a := g2.1
    rw [fre_bit, Bool.and_eq_true, knb N (show f0 < 8 by omega)] at g2a
    refine ⟨f0, rfl, g1, by simpa using g2a.2, ?_⟩
    unfold gt at g2b
    rw [Nat.zero_add, Nat.zero_add] at g2b
    omega
/-- where it is sure, both who plead so end so -/
theorem dv_const {b : Bool} {fi : Nat} (hb : ∀ x, lv T N x = true → decide (cn (lw T N k) (T 1) x ≠ 0) = b) : ∀ m x, x < 3 ^ T 1 → 3 ^ T 1 - x ≤ m → lv T N x = true → dv T N k fi x = b := by
  intro m
  induction m with
  | zero => intro x h1 h2 _; omega
  | succ m ih =>
    intro x h1 h2 hl
    rw [dv_eq h1]
    by_cases ha : aL T N x (T 1) = true
    · rw [if_pos ha]
      have step : ∀ f, f < T 1 → (unk N x f && (ch T N (dv T N k fi) (plz T fi x) (x + 1 * 3 ^ f) || ch T N (dv T N k fi) (plz T fi x) (x + 2 * 3 ^ f))) = ((unk N x f && (lv T N (x + 1 * 3 ^ f) || lv T N (x + 2 * 3 ^ f))) && (b == plz T fi x)) := fun f hf => by
        by_cases hp : unk N x f = true
        · have hd := unk_d hp
          have p3 := p3_pos f
          have a1 := put_lt h1 hf hd (d := 1) (by omega)
          have a2 := put_lt h1 hf hd (d := 2) (by omega)
          have i1 := ih (x + 1 * 3 ^ f) a1 (by omega)
          have i2 := ih (x + 2 * 3 ^ f) a2 (by omega)
          unfold ch
          rw [hp]
          cases q1 : lv T N (x + 1 * 3 ^ f) <;> cases q2 : lv T N (x + 2 * 3 ^ f)
          · simp only [Bool.false_and, Bool.or_false, Bool.and_false, Bool.true_and]
          · rw [i2 q2]; simp only [Bool.false_and, Bool.false_or, Bool.true_and, Bool.or_true, Bool.and_true]
          · rw [i1 q1]; simp only [Bool.false_and, Bool.or_false, Bool.true_and, Bool.and_true]
          · rw [i1 q1, i2 q2]; simp only [Bool.true_and, Bool.or_self]
        · rw [Bool.not_eq_true] at hp
          rw [hp, Bool.false_and, Bool.false_and, Bool.false_and]
      have e : aE T N (dv T N k fi) (plz T fi x) x (T 1) = (b == plz T fi x) := by
        unfold aE
        rw [anyB_congr step]
        cases q : (b == plz T fi x)
        · refine Bool.eq_false_iff.mpr fun z => ?_
          obtain ⟨w, _, h2⟩ := anyB_iff.mp z
          rw [Bool.and_false] at h2; cases h2
        · have ha : anyB (fun f => unk N x f && (lv T N (x + 1 * 3 ^ f) || lv T N (x + 2 * 3 ^ f))) (T 1) = true := ha
          obtain ⟨w, hw, h2⟩ := anyB_iff.mp ha
          exact anyB_iff.mpr ⟨w, hw, by rw [h2, Bool.true_and]⟩
      rw [e]
      generalize plz T fi x = pz
      cases b <;> cases pz <;> rfl
    · rw [if_neg ha]; exact hb x hl
theorem lv_ne (h : lv T N x = true) : cn (lft T N) (T 1) x ≠ 0 := by unfold lv at h; exact of_decide_eq_true h
theorem dv_sure1 (hN : WN T N) {fi : Nat} (h : cn (lw T N k) (T 1) 0 = cn (lft T N) (T 1) 0) : dv T N k fi 0 = true :=
  dv_const (fun x hl => decide_eq_true (by rw [all_same h]; exact lv_ne hl)) _ 0 (p3_pos _) (Nat.le_refl _) (lv_root hN)
theorem dv_sure0 (hN : WN T N) {fi : Nat} (h : cn (lw T N k) (T 1) 0 = 0) : dv T N k fi 0 = false :=
  dv_const (fun x hl => decide_eq_false (fun q => q (none_same h x))) _ 0 (p3_pos _) (Nat.le_refl _) (lv_root hN)
/-- a legal turn where it isn't sure -/
theorem aL_mix (hW : WT T) (hm : mix T N k 0 = true) : aL T N 0 (T 1) = true := by
  have w1 := hW.1.2.1
  obtain ⟨f, f1, f2, f3⟩ := mix_ex hW (k := k) (sb_0 (fre T N)) (sb_0 0) (by rw [nd_00]; exact hm)
  have hu : unk N 0 f = true := by rw [uk0 hW f1]; exact f3
  refine anyB_iff.mpr ⟨f, f1, ?_⟩
  rw [hu, Bool.true_and]
  have s := cn_split (P := lft T N) (x := 0) f1 (dg_00 f)
  have hne : cn (lft T N) (T 1) 0 ≠ 0 := by
    have le := lw_le (T := T) (N := N) (k := k) (x := 0)
    unfold mix at hm
    rw [Bool.and_eq_true] at hm
    have := of_decide_eq_true hm.1
    omega
  unfold lv
  by_cases q : cn (lft T N) (T 1) (0 + 1 * 3 ^ f) = 0
  · rw [Bool.or_eq_true]; right; exact decide_eq_true (by omega)
  · rw [decide_eq_true q]; rfl
/-- a turn that wins -/
theorem turn_cases (hW : WT T) (hm : mix T N k 0 = true) {fi : Nat} (hfi : fi < 2) : (fstB (tn T N k fi (decide (fi = 0)) 0) (T 1) = none ∧ dv T N k fi 0 = !decide (fi = 0)) ∨
    ∃ f, fstB (tn T N k fi (decide (fi = 0)) 0) (T 1) = some f ∧ f < T 1 ∧ kn N f = false ∧ dv T N k fi 0 = decide (fi = 0) ∧
      ∃ so, so ≤ 1 ∧ (if ch T N (dv T N k fi) (decide (fi = 0)) (0 + 1 * 3 ^ f) = true then 0 else 1) = so ∧ lv T N ((1 + so) * 3 ^ f) = true ∧ dv T N k fi ((1 + so) * 3 ^ f) = decide (fi = 0) := by
  have w1 := hW.1.2.1
  have hp : plz T fi 0 = decide (fi = 0) := by
    unfold plz
    have : tc 0 (T 1) = 0 := by
      unfold tc
      rw [cntB_0]
      refine Bool.eq_false_iff.mpr fun z => ?_
      obtain ⟨w, _, h2⟩ := anyB_iff.mp z
      rw [dg_00, decide_eq_true (show (0 : Nat) = 0 from rfl)] at h2; cases h2
    rw [this]
    exact decide_eq_decide.mpr (by omega)
  have e0 := dv_eq (N := N) (k := k) (fi := fi) (p3_pos (T 1))
  rw [if_pos (aL_mix hW hm), hp] at e0
  cases hfs : fstB (tn T N k fi (decide (fi = 0)) 0) (T 1) with
  | none =>
    left
    refine ⟨rfl, ?_⟩
    have : aE T N (dv T N k fi) (decide (fi = 0)) 0 (T 1) = false := by
      refine Bool.eq_false_iff.mpr fun z => ?_
      obtain ⟨f, hf, h2⟩ := anyB_iff.mp z
      have := fstB_none.mp hfs f hf
      unfold tn at this
      rw [this] at h2; cases h2
    rw [e0, this]
    cases decide (fi = 0) <;> rfl
  | some f =>
    right
    obtain ⟨g1, g2, _⟩ := fstB_some.mp hfs
    have g2' := g2
    unfold tn at g2
    rw [Bool.and_eq_true] at g2
    have hkn : kn N f = false := by
      have h1 := g2.1
      unfold unk at h1
      rw [Bool.and_eq_true, knb N (show f < 8 by omega)] at h1
      simpa using h1.1
    have hE : aE T N (dv T N k fi) (decide (fi = 0)) 0 (T 1) = true := anyB_iff.mpr ⟨f, g1, g2'⟩
    refine ⟨f, rfl, g1, hkn, by rw [e0, hE]; cases decide (fi = 0) <;> rfl, ?_⟩
    by_cases hc : ch T N (dv T N k fi) (decide (fi = 0)) (0 + 1 * 3 ^ f) = true
    · refine ⟨0, by omega, if_pos hc, ?_⟩
      unfold ch at hc
      rw [Bool.and_eq_true, Nat.zero_add] at hc
      exact ⟨hc.1, by simpa using hc.2⟩
    · refine ⟨1, by omega, if_neg hc, ?_⟩
      rw [Bool.not_eq_true] at hc
      rw [hc, Bool.false_or] at g2
      have h2 := g2.2
      unfold ch at h2
      rw [Bool.and_eq_true, Nat.zero_add] at h2
      exact ⟨h2.1, by simpa using h2.2⟩
end D2
