/-! A FACT THAT BECOMES KNOWN: the tree of ways below it is the tree of what is then -/
def MK (T N : Nat → Nat) (f how so : Nat) : Prop := f < T 1 ∧ T 1 ≤ 8 ∧ kn N f = false ∧ (how = 1 ∨ how = 4) ∧ so ≤ 1
section D1
variable {T N : Nat → Nat} {k f how so x : Nat}
theorem bN_so {w f so : Nat} (hs : so ≤ 1) : (w.testBit f == decide (so = 1)) = decide (bNw w f = 1 + so) := by
  unfold bNw
  rcases (show so = 0 ∨ so = 1 by omega) with rfl | rfl <;> cases w.testBit f <;> rfl
theorem mk_lft (h : MK T N f how so) (w : Nat) : lft T (mkn N f how so) w = (lft T N w && decide (bNw w f = 1 + so)) := by
  obtain ⟨h1, h2, h3, h4, h5⟩ := h
  rw [lft_new (by omega) h4 h3, bN_so h5]
theorem mk_lw (h : MK T N f how so) (w : Nat) : lw T (mkn N f how so) k w = (lw T N k w && decide (bNw w f = 1 + so)) := by
  have h8 : f < 8 := by have := h.1; have := h.2.1; omega
  show (_ && won T (it (mkn N f how so) k 0) w) = ((_ && _) && _)
  rw [mk_lft h, mkn_it h8]
  cases lft T N w <;> cases won T (it N k 0) w <;> cases decide (bNw w f = 1 + so) <;> rfl
theorem mk_cn (h : MK T N f how so) (h0 : dg x f = 0) : cn (lft T (mkn N f how so)) (T 1) x = cn (lft T N) (T 1) (x + (1 + so) * 3 ^ f) := by
  refine cntB_congr fun w _ => ?_
  have h5 := h.2.2.2.2
  show (_ && agw (T 1) x w) = (_ && agw (T 1) (x + (1 + so) * 3 ^ f) w)
  rw [mk_lft h, agw_put h.1 h0 (by omega)]
  cases lft T N w <;> cases agw (T 1) x w <;> cases decide (bNw w f = 1 + so) <;> rfl
theorem mk_cl (h : MK T N f how so) (h0 : dg x f = 0) : cn (lw T (mkn N f how so) k) (T 1) x = cn (lw T N k) (T 1) (x + (1 + so) * 3 ^ f) := by
  refine cntB_congr fun w _ => ?_
  have h5 := h.2.2.2.2
  show (_ && agw (T 1) x w) = (_ && agw (T 1) (x + (1 + so) * 3 ^ f) w)
  rw [mk_lw h, agw_put h.1 h0 (by omega)]
  cases lw T N k w <;> cases agw (T 1) x w <;> cases decide (bNw w f = 1 + so) <;> rfl
theorem mix_mk (h : MK T N f how so) (h0 : dg x f = 0) : mix T (mkn N f how so) k x = mix T N k (x + (1 + so) * 3 ^ f) := by
  unfold mix; rw [mk_cl h h0, mk_cn h h0]
theorem lv_mk (h : MK T N f how so) (h0 : dg x f = 0) : lv T (mkn N f how so) x = lv T N (x + (1 + so) * 3 ^ f) := by
  unfold lv; rw [mk_cn h h0]
theorem knb (N : Nat → Nat) {g : Nat} (hg : g < 8) : (knF N).testBit g = kn N g := by
  unfold knF; rw [bs_bit, decide_eq_true hg, Bool.true_and]
theorem mk_kn (h : MK T N f how so) {g : Nat} (hg : g < 8) : kn (mkn N f how so) g = if g = f then true else kn N g := by
  have h8 : f < 8 := by have := h.1; have := h.2.1; omega
  rw [mkn_kn h8 hg]
  obtain ⟨_, _, _, h4, _⟩ := h
  rcases h4 with rfl | rfl <;> rfl
theorem unk_mk (h : MK T N f how so) (h0 : dg x f = 0) {g : Nat} (hg : g < 8) : unk (mkn N f how so) x g = unk N (x + (1 + so) * 3 ^ f) g := by
  have h5 := h.2.2.2.2
  unfold unk
  rw [knb _ hg, knb _ hg, mk_kn h hg, dg_put h0 (by omega)]
  by_cases e : g = f
  · rw [if_pos e, if_pos e, decide_eq_false (show ¬ 1 + so = 0 by omega), Bool.and_false]; rfl
  · rw [if_neg e, if_neg e]
/-- below f both trees go alike -/
theorem mk_step (h : MK T N f how so) (h1 : x < 3 ^ T 1) (h0 : dg x f = 0) {g : Nat} (hg : g < T 1) (hp : unk (mkn N f how so) x g = true) {d : Nat} (hd : d = 1 ∨ d = 2) :
    x + d * 3 ^ g < 3 ^ T 1 ∧ dg (x + d * 3 ^ g) f = 0 ∧ x < x + d * 3 ^ g ∧ x + d * 3 ^ g + (1 + so) * 3 ^ f = x + (1 + so) * 3 ^ f + d * 3 ^ g := by
  have h5 := h.2.2.2.2
  have h8 := h.2.1
  have e0 := unk_d hp
  have hp' := hp
  rw [unk_mk h h0 (by omega)] at hp'
  have e1 := unk_d hp'
  have hgf : g ≠ f := fun e => by subst e; rw [dg_put h0 (by omega), if_pos rfl] at e1; omega
  have p3 := p3_pos g
  refine ⟨put_lt h1 hg e0 (by omega), by rw [dg_put e0 (by omega), if_neg (Ne.symm hgf)]; exact h0, ?_, Nat.add_right_comm _ _ _⟩
  rcases hd with rfl | rfl <;> omega
theorem btr_mk (h : MK T N f how so) : ∀ m x, x < 3 ^ T 1 → 3 ^ T 1 - x ≤ m → dg x f = 0 → btr T (mkn N f how so) k x = btr T N k (x + (1 + so) * 3 ^ f)
  | 0, x, h1, h2, _ => by omega
  | m + 1, x, h1, h2, h0 => by
    have h5 := h.2.2.2.2
    have h8 := h.2.1
    rw [btr_eq h1, btr_eq (put_lt h1 h.1 h0 (by omega)), mix_mk h h0]
    split
    · refine mnf_congr fun g hg => ⟨unk_mk h h0 (by omega), fun hp => ?_⟩
      obtain ⟨a1, a2, a3, a4⟩ := mk_step h h1 h0 hg hp (d := 1) (Or.inl rfl)
      obtain ⟨b1, b2, b3, b4⟩ := mk_step h h1 h0 hg hp (d := 2) (Or.inr rfl)
      unfold gt
      rw [btr_mk h m _ a1 (by omega) a2, btr_mk h m _ b1 (by omega) b2, a4, b4]
    · rfl
theorem aL_mk (h : MK T N f how so) (h1 : x < 3 ^ T 1) (h0 : dg x f = 0) : aL T (mkn N f how so) x (T 1) = aL T N (x + (1 + so) * 3 ^ f) (T 1) := by
  have h8 := h.2.1
  refine anyB_congr fun g hg => ?_
  rw [← unk_mk h h0 (by omega)]
  by_cases hp : unk (mkn N f how so) x g = true
  · obtain ⟨a1, a2, a3, a4⟩ := mk_step h h1 h0 hg hp (d := 1) (Or.inl rfl)
    obtain ⟨b1, b2, b3, b4⟩ := mk_step h h1 h0 hg hp (d := 2) (Or.inr rfl)
    rw [lv_mk h a2, lv_mk h b2, a4, b4]
  · rw [Bool.not_eq_true] at hp
    rw [hp, Bool.false_and, Bool.false_and]
theorem tc_mk (h : MK T N f how so) (h0 : dg x f = 0) : tc (x + (1 + so) * 3 ^ f) (T 1) = tc x (T 1) + 1 := by
  have h5 := h.2.2.2.2
  unfold tc
  have e := cntB_two (p := fun g => !decide (dg (x + (1 + so) * 3 ^ f) g = 0)) (q := fun g => !decide (dg x g = 0)) (r := fun g => decide (g = f)) (n := T 1) fun g _ => by
    show (!decide (dg (x + (1 + so) * 3 ^ f) g = 0)) = _ ∧ _
    rw [dg_put h0 (by omega)]
    by_cases e : g = f
    · subst e; rw [if_pos rfl, h0, decide_eq_true (show g = g from rfl), decide_eq_false (show ¬ 1 + so = 0 by omega)]; exact ⟨rfl, rfl⟩
    · rw [if_neg e, decide_eq_false e, Bool.or_false, Bool.and_false]; exact ⟨rfl, rfl⟩
  have e2 := cntB_one (p := fun g => decide (g = f)) (v := f) h.1 fun g _ hne => decide_eq_false hne
  rw [e, e2, decide_eq_true (show f = f from rfl), if_pos rfl]
theorem plz_mk (h : MK T N f how so) (h0 : dg x f = 0) {fi : Nat} (hfi : fi ≤ 1) : plz T (1 - fi) x = plz T fi (x + (1 + so) * 3 ^ f) := by
  unfold plz
  rw [tc_mk h h0]
  rw [show (decide ((1 - fi + tc x (T 1)) % 2 = 0)) = decide ((fi + (tc x (T 1) + 1)) % 2 = 0) from decide_eq_decide.mpr (by omega)]
theorem dv_mk (h : MK T N f how so) {fi : Nat} (hfi : fi ≤ 1) : ∀ m x, x < 3 ^ T 1 → 3 ^ T 1 - x ≤ m → dg x f = 0 → dv T (mkn N f how so) k (1 - fi) x = dv T N k fi (x + (1 + so) * 3 ^ f)
  | 0, x, h1, h2, _ => by omega
  | m + 1, x, h1, h2, h0 => by
    have h5 := h.2.2.2.2
    have h8 := h.2.1
    rw [dv_eq h1, dv_eq (put_lt h1 h.1 h0 (by omega)), aL_mk h h1 h0, mk_cl h h0, plz_mk h h0 hfi]
    have e : aE T (mkn N f how so) (dv T (mkn N f how so) k (1 - fi)) (plz T fi (x + (1 + so) * 3 ^ f)) x (T 1) = aE T N (dv T N k fi) (plz T fi (x + (1 + so) * 3 ^ f)) (x + (1 + so) * 3 ^ f) (T 1) := by
      refine anyB_congr fun g hg => ?_
      rw [← unk_mk h h0 (by omega)]
      by_cases hp : unk (mkn N f how so) x g = true
      · obtain ⟨a1, a2, a3, a4⟩ := mk_step h h1 h0 hg hp (d := 1) (Or.inl rfl)
        obtain ⟨b1, b2, b3, b4⟩ := mk_step h h1 h0 hg hp (d := 2) (Or.inr rfl)
        unfold ch
        rw [lv_mk h a2, lv_mk h b2, dv_mk h hfi m _ a1 (by omega) a2, dv_mk h hfi m _ b1 (by omega) b2, a4, b4]
      · rw [Bool.not_eq_true] at hp
        rw [hp, Bool.false_and, Bool.false_and]
    rw [e]
theorem dg_00 (f : Nat) : dg 0 f = 0 := by unfold dg; rw [Nat.zero_div]
theorem btr_mk0 (h : MK T N f how so) : btr T (mkn N f how so) k 0 = btr T N k ((1 + so) * 3 ^ f) := by
  have := btr_mk (k := k) h _ 0 (p3_pos _) (Nat.le_refl _) (dg_00 f)
  rw [Nat.zero_add] at this; exact this
theorem dv_mk0 (h : MK T N f how so) {fi : Nat} (hfi : fi ≤ 1) : dv T (mkn N f how so) k (1 - fi) 0 = dv T N k fi ((1 + so) * 3 ^ f) := by
  have := dv_mk (k := k) h hfi _ 0 (p3_pos _) (Nat.le_refl _) (dg_00 f)
  rw [Nat.zero_add] at this; exact this
/-- whether it can become known so -/
theorem sme_lv (h : MK T N f how so) : sme T N f (decide (so = 1)) = lv T N ((1 + so) * 3 ^ f) := by
  have h5 := h.2.2.2.2
  have e := mk_cn h (dg_00 f)
  rw [Nat.zero_add, cn_0] at e
  unfold lv
  rw [← e]
  unfold sme
  have e2 : ∀ w, (lft T N w && (w.testBit f == decide (so = 1))) = lft T (mkn N f how so) w := fun w => by rw [mk_lft h, bN_so h5]
  rw [anyB_congr fun w _ => e2 w]
  have key : (cntB (lft T (mkn N f how so)) 256 ≠ 0) ↔ anyB (lft T (mkn N f how so)) 256 = true := by rw [Ne, cntB_0, Bool.not_eq_false]
  cases q : anyB (lft T (mkn N f how so)) 256
  · rw [decide_eq_false (fun z : cntB (lft T (mkn N f how so)) 256 ≠ 0 => by have := key.mp z; rw [q] at this; cases this)]
  · rw [decide_eq_true (key.mpr q)]
end D1
