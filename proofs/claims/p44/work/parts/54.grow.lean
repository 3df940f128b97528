section Grow
variable {σ : Sg} {I I' J I1 I2 : Nat → Nat → Int32} {L L' L1 L2 : Nat → Nat → Int64}
/-- going down -/
theorem lp_dn {S ρ : Type} {f : Int32 × S → Option ((Int32 × S) ⊕ ρ)} (n : Nat) (Q : Nat → S → Prop) (P : ρ → Prop)
    (hs : ∀ x h, x < n → Q (x + 1) h → ∃ h', f (nI x, h) = some (.inl (nI x + -1, h')) ∧ Q x h') (he : ∀ h, Q 0 h → ∃ r, f (-1, h) = some (.inr r) ∧ P r) {h : S} (h0 : Q n h) : ∃ r, lp f (nI n + -1, h) = some r ∧ P r := by
  refine lp_inv (f := f) n (fun i st => i ≤ n ∧ ∃ h, st = (nI (n - i) + -1, h) ∧ Q (n - i) h) P (fun i st hi hQ => ?_) (fun st hQ => ?_) (s := (nI n + -1, h)) ⟨Nat.zero_le _, h, rfl, h0⟩
  · obtain ⟨_, h, rfl, hq⟩ := hQ
    obtain ⟨x, hx⟩ : ∃ x, n - i = x + 1 := ⟨n - i - 1, by omega⟩
    rw [hx] at hq ⊢
    obtain ⟨h', e, hq'⟩ := hs x h (by omega) hq
    rw [nI_m1n (by omega), Nat.add_sub_cancel, e, show n - (i + 1) = x by omega]
    exact ⟨_, rfl, by omega, h', rfl, hq'⟩
  · obtain ⟨_, h, rfl, hq⟩ := hQ
    rw [Nat.sub_self] at hq ⊢
    exact he h hq
theorem nI_as (n : Nat) : nI n = nI (n + 1) + -1 := by rw [nI_m1n (by omega)]; rfl
def Th (I : Nat → Nat → Int32) : Prop := ∀ s, s < 256 → I 421 s = nI (th s)
theorem Th.frC (h : Th I) (f : FrC I L I' L') : Th I' := fun k hk' => by rw [(f 421 (by unfold scC; omega)).1]; exact h k hk'
theorem Th.up (h : Th I) {a : Nat} (r : Nat → Int32) (ha : a ≠ 421) : Th (rowUp I a r) := fun k hk' => by rw [rowUp_at, if_neg (Ne.symm ha)]; exact h k hk'
theorem g9 (k : Nat) {ρ : Type} (f : Nat → Option ρ) : (gR 9 k 420 (hk σ I L)).bind f = f (RF σ 420 k) := rfl
theorem s420 : (hpS (hk σ I L) 420).1 = 10 := rfl
theorem node_ok (h : Th I) {F S : Nat} (hF : F < 256) (hS : S < 256) : mX9_node 420 (nI F) (nI S) (hk σ I L) = some (nI (nd F S)) := by
  unfold mX9_node
  rw [if_pos s420, g9, RF_420_0, at_r (n := 256) rfl hF (by omega), obind, g9, RF_420_0, at_r (n := 256) rfl hS (by omega), obind, h F hF, h S hS, nI_add]; rfl
theorem lowb : ∀ u, u < 256 → u ≠ 0 → anyB (fun f => u.testBit f && decide (nI u &&& (-nI u) = nI (2 ^ f))) 8 = true := by decide +kernel
theorem lowb' {u : Nat} (h : u < 256) (h0 : u ≠ 0) : ∃ f, f < 8 ∧ u.testBit f = true ∧ nI u &&& (-nI u) = nI (2 ^ f) := by
  obtain ⟨f, hf, h1⟩ := anyB_iff.mp (lowb u h h0)
  rw [Bool.and_eq_true] at h1
  exact ⟨f, hf, h1.1, of_decide_eq_true h1.2⟩
theorem or_gt {x f : Nat} (h : x.testBit f = false) : x < x ||| 2 ^ f := by
  rcases Nat.lt_or_ge x (x ||| 2 ^ f) with q | q
  · exact q
  · have e : x ||| 2 ^ f = x := Nat.le_antisymm q Nat.left_le_or
    have := tb_or1 (s := x) (f := f) (i := f)
    rw [e, h] at this
    simp at this
theorem sb_or {x f F : Nat} (h : sb x F) (hf : F.testBit f = true) : sb (x ||| 2 ^ f) F := by
  intro i hi
  rw [tb_or1] at hi
  by_cases e : i = f
  · subst e; exact hf
  · rw [decide_eq_false e, Bool.or_false] at hi; exact h i hi
theorem sb_or2 {s x f : Nat} (h : sb s x) : sb (s ||| 2 ^ f) (x ||| 2 ^ f) := by
  intro i hi
  rw [tb_or1] at hi ⊢
  cases e : decide (i = f)
  · rw [e, Bool.or_false] at hi; rw [h i hi]; rfl
  · rw [Bool.or_true]
theorem sb_or1 {s x f : Nat} (h : sb s x) : sb s (x ||| 2 ^ f) := fun i hi => by rw [tb_or1, h i hi]; rfl
/-- rows that hold what they must of the nodes from a place on -/
def gr (v : Nat → Nat → Nat) (F : Nat) (r : Nat → Int32) (x m : Nat) : Prop := ∀ fs so, sb fs F → sb so fs → (x < fs ∨ (fs = x ∧ m ≤ so)) → r (nd fs so) = nI (v fs so)
theorem grw_put {v : Nat → Nat → Nat} {F : Nat} {r : Nat → Int32} {x s : Nat} (hF : F < 256) (hx : sb x F) (hs : sb s x) (h : gr v F r x (s + 1)) : gr v F (updA r (nd x s) (nI (v x s))) x s := by
  intro fs so h1 h2 h3
  rw [updA_at]
  by_cases e : nd fs so = nd x s
  · obtain ⟨rfl, rfl⟩ := nd_inj (Nat.lt_of_le_of_lt (sb_le h1) hF) (Nat.lt_of_le_of_lt (sb_le hx) hF) h2 hs e
    rw [if_pos rfl]
  · rw [if_neg e]
    refine h fs so h1 h2 ?_
    rcases h3 with h3 | ⟨rfl, h3⟩
    · exact Or.inl h3
    · refine Or.inr ⟨rfl, ?_⟩
      rcases Nat.lt_or_ge s so with q | q
      · exact q
      · have : so = s := by omega
        subst this; exact absurd rfl e
theorem gr_skip {v : Nat → Nat → Nat} {F : Nat} {r : Nat → Int32} {x s : Nat} (hs : ¬ sb s x) (h : gr v F r x (s + 1)) : gr v F r x s := by
  intro fs so h1 h2 h3
  refine h fs so h1 h2 ?_
  rcases h3 with h3 | ⟨rfl, h3⟩
  · exact Or.inl h3
  · refine Or.inr ⟨rfl, ?_⟩
    rcases Nat.lt_or_ge s so with q | q
    · exact q
    · have : so = s := by omega
      subst this; exact absurd h2 hs
theorem gr_next {v : Nat → Nat → Nat} {F : Nat} {r : Nat → Int32} {x : Nat} (h : gr v F r (x + 1) 0) : gr v F r x (x + 1) := by
  intro fs so h1 h2 h3
  rcases h3 with h3 | ⟨rfl, h3⟩
  · exact h fs so h1 h2 (by
      rcases Nat.lt_or_ge (x + 1) fs with q | q
      · exact Or.inl q
      · exact Or.inr ⟨by omega, Nat.zero_le _⟩)
  · have := sb_le h2; omega
theorem gr_no {v : Nat → Nat → Nat} {F : Nat} {r : Nat → Int32} {x : Nat} (hx : ¬ sb x F) (h : gr v F r (x + 1) 0) : gr v F r x 0 := by
  intro fs so h1 h2 h3
  rcases h3 with h3 | ⟨rfl, h3⟩
  · exact gr_next h fs so h1 h2 (Or.inl h3)
  · exact absurd h1 hx
theorem gr_top {v : Nat → Nat → Nat} {F : Nat} {r : Nat → Int32} : gr v F r (F + 1) 0 := by
  intro fs so h1 h2 h3
  have := sb_le h1
  omega
/-- grow -/
theorem grow_ok (hTh : Th I) {lv : Nat → Nat} (hl : ∀ w, w < 256 → I 422 w = nI (lv w)) {F B : Nat} (hF : F < 256) (hB : B < 256) (h0 : F &&& B = 0) :
    ∃ r, mX9_grow 420 (nI F) (nI B) (hk σ I L) = some (hk σ (rowUp (rowUp I 420 (updA (I 420) 4 (nI F))) 423 r) L) ∧ ∀ fs so, sb fs F → sb so fs → r (nd fs so) = nI (mk lv F B fs so) := by
  obtain ⟨J, hJ⟩ : ∃ J, J = rowUp I 420 (updA (I 420) 4 (nI F)) := ⟨_, rfl⟩
  have j4 : ∀ r, rowUp J 423 r 420 4 = nI F := fun r => by rw [rowUp_at, if_neg (by decide), hJ, rowUp_same, updA_same]
  have jT : ∀ r, Th (rowUp J 423 r) := fun r => by rw [hJ]; exact (hTh.up _ (by decide)).up _ (by decide)
  have jL : ∀ r w, w < 256 → rowUp J 423 r 422 w = nI (lv w) := fun r w hw => by rw [rowUp_at, if_neg (by decide), hJ, rowUp_at, if_neg (by decide)]; exact hl w hw
  have inner : ∀ (x s : Nat) (r : Nat → Int32), x < 256 → sb x F → s ≤ x → gr (mk lv F B) F r x (s + 1) → ∃ h', mX9_grow_l17f 420 (nI B) (nI x) (nI s) (hk σ (rowUp J 423 r) L) = some (.inl (nI s + -1, h')) ∧ ∃ r', h' = hk σ (rowUp J 423 r') L ∧ gr (mk lv F B) F r' x s := by
    intro x s r hx hxF hsx hg
    have hs : s < 256 := by omega
    have hn := nd_lt x s
    have fin : ∀ v, v = nI (mk lv F B x s) → sb s x → ∃ h', mX9_grow_b94 420 (nI B) (nI x) (nI s) 423 (nI (nd x s)) v (hk σ (rowUp J 423 r) L) = some (.inl (nI s + -1, h')) ∧ ∃ r', h' = hk σ (rowUp J 423 r') L ∧ gr (mk lv F B) F r' x s := by
      intro v hv hss
      unfold mX9_grow_b94 mX9_grow_b97
      rw [put_nI (n := 6561) rfl (by omega) hn, obind, setI_hk, rowUp_two, hpI_hk', rowUp_same, hv]
      exact ⟨_, rfl, _, rfl, grw_put hF hxF hss hg⟩
    unfold mX9_grow_l17f
    rw [if_neg (nI_pos (show s < 2 ^ 31 by omega)), gI_o 4 (n := 5) rfl, obind, j4, nx_not (by omega), if_pos (show nI (x ^^^ (x &&& F)) = 0 by rw [sb_iff.mpr hxF]; rfl), nx_not (by omega)]
    by_cases hss : sb s x
    · rw [if_pos (show nI (s ^^^ (s &&& x)) = 0 by rw [sb_iff.mpr hss]; rfl), node_ok (jT r) hx hs, obind, obind, g9, RF_420_2, nx_not (by omega)]
      have hu : F ^^^ (F &&& x) < 256 := Nat.xor_lt_two_pow (n := 8) hF (Nat.lt_of_le_of_lt Nat.and_le_left hF)
      by_cases hz : F ^^^ (F &&& x) = 0
      · have hFx : F = x := Nat.le_antisymm (sb_le (sb_iff.mp hz)) (sb_le hxF)
        rw [hz, if_pos (show nI 0 = 0 from rfl), g9, RF_420_1, nx_or, at_r (n := 256) rfl (nx_or_lt hs hB) (by omega), obind, jL _ _ (nx_or_lt hs hB)]
        refine fin _ ?_ hss
        rw [← hFx, mk_leaf hF hB h0 (by rw [hFx]; exact hss)]
      · obtain ⟨f, hf, hfu, hlow⟩ := lowb' hu hz
        have hFf : F.testBit f = true ∧ x.testBit f = false := by
          rw [Nat.testBit_xor, Nat.testBit_and] at hfu
          revert hfu
          cases F.testBit f <;> cases x.testBit f <;> simp
        obtain ⟨hFf, hxf⟩ := hFf
        have p1 := hg (x ||| 2 ^ f) s (sb_or hxF hFf) (sb_or1 hss) (Or.inl (or_gt hxf))
        have p2 := hg (x ||| 2 ^ f) (s ||| 2 ^ f) (sb_or hxF hFf) (sb_or2 hss) (Or.inl (or_gt hxf))
        have l1 := nd_lt (x ||| 2 ^ f) s
        have l2 := nd_lt (x ||| 2 ^ f) (s ||| 2 ^ f)
        rw [nd_or1 hf hxf] at p1 l1
        rw [nd_or2 hf hxf hss] at p2 l2
        have hp2 : 2 ^ f < 256 := Nat.pow_lt_pow_right (a := 2) (by omega) hf
        rw [if_neg (show ¬ nI (F ^^^ (F &&& x)) = 0 from nI_ne0 (by omega) (by omega))]
        unfold mX9_markFrom
        rw [if_pos s420, g9, RF_420_0, hlow, at_r (n := 256) rfl hp2 (by omega), obind, jT r _ hp2, th_1 hf, g9, RF_420_2, nI_add, at_r (n := 6561) rfl l1 (by omega), obind, g9, RF_420_2, show (2 : Int32) = nI 2 from rfl, pk_mul, nI_add, at_r (n := 6561) rfl l2 (by omega), obind, rowUp_same, p1, p2, nx_or, obind]
        exact fin _ (by rw [mk_split hxf hss]) hss
    · rw [if_neg (show ¬ nI (s ^^^ (s &&& x)) = 0 from fun z => hss (sb_iff.mp (by
        have hb : s ^^^ (s &&& x) < 256 := Nat.xor_lt_two_pow (n := 8) hs (Nat.lt_of_le_of_lt Nat.and_le_left hs)
        exact (nI_eq (by omega) (by omega)).mp z)))]
      unfold mX9_grow_b97
      exact ⟨_, rfl, r, rfl, gr_skip hss hg⟩
  have outer : ∀ (x : Nat) (r : Nat → Int32), x < 256 → gr (mk lv F B) F r (x + 1) 0 → ∃ h', mX9_grow_l10f 420 (nI B) (nI x) (hk σ (rowUp J 423 r) L) = some (.inl (nI x + -1, h')) ∧ ∃ r', h' = hk σ (rowUp J 423 r') L ∧ gr (mk lv F B) F r' x 0 := by
    intro x r hx hg
    unfold mX9_grow_l10f
    rw [if_neg (nI_pos (show x < 2 ^ 31 by omega))]
    unfold mX9_grow_l17
    by_cases hxF : sb x F
    · obtain ⟨o, e, r', rfl, hr'⟩ := lp_dn (f := fun s : Int32 × Hp => mX9_grow_l17f 420 (nI B) (nI x) s.1 s.2) (x + 1) (fun m h => ∃ r, h = hk σ (rowUp J 423 r) L ∧ gr (mk lv F B) F r x m)
        (fun o => ∃ r', o = .inl (nI x + -1, hk σ (rowUp J 423 r') L) ∧ gr (mk lv F B) F r' x 0)
        (fun s h hs hQ => by
          obtain ⟨r, rfl, hg⟩ := hQ
          exact inner x s r hx hxF (by omega) hg)
        (fun h hQ => by
          obtain ⟨r, rfl, hg⟩ := hQ
          refine ⟨_, ?_, r, rfl, hg⟩
          show mX9_grow_l17f 420 (nI B) (nI x) (-1) (hk σ (rowUp J 423 r) L) = _
          unfold mX9_grow_l17f mX9_grow_b103
          rw [if_pos (by decide), xts]) (h := hk σ (rowUp J 423 r) L) ⟨r, rfl, gr_next hg⟩
      rw [← nI_as] at e
      exact ⟨_, e, r', rfl, hr'⟩
    · refine ⟨_, lp_inr (r := (Sum.inl (nI x + -1, hk σ (rowUp J 423 r) L) : (Int32 × Hp) ⊕ Hp)) ?_, r, rfl, gr_no hxF hg⟩
      show mX9_grow_l17f 420 (nI B) (nI x) (nI x) (hk σ (rowUp J 423 r) L) = _
      unfold mX9_grow_l17f mX9_grow_b103
      rw [if_neg (nI_pos (show x < 2 ^ 31 by omega)), gI_o 4 (n := 5) rfl, obind, j4, nx_not (by omega), if_neg (show ¬ nI (x ^^^ (x &&& F)) = 0 from fun z => hxF (sb_iff.mp (by
        have hb : x ^^^ (x &&& F) < 256 := Nat.xor_lt_two_pow (n := 8) hx (Nat.lt_of_le_of_lt Nat.and_le_left hx)
        exact (nI_eq (by omega) (by omega)).mp z))), xts]
  unfold mX9_grow
  rw [if_pos s420, sI_ok (by rfl), obind, setI_hk, hpI_hk', gI_o 4 (n := 5) rfl, obind, ← hJ]
  unfold mX9_grow_l10
  obtain ⟨o, e, r', rfl, hr'⟩ := lp_dn (f := fun s : Int32 × Hp => mX9_grow_l10f 420 (nI B) s.1 s.2) (F + 1) (fun m h => ∃ r, h = hk σ (rowUp J 423 r) L ∧ gr (mk lv F B) F r m 0)
    (fun o => ∃ r', o = hk σ (rowUp J 423 r') L ∧ gr (mk lv F B) F r' 0 0)
    (fun x h hx hQ => by
      obtain ⟨r, rfl, hg⟩ := hQ
      exact outer x r (by omega) hg)
    (fun h hQ => by
      obtain ⟨r, rfl, hg⟩ := hQ
      refine ⟨_, ?_, r, rfl, hg⟩
      show mX9_grow_l10f 420 (nI B) (-1) (hk σ (rowUp J 423 r) L) = _
      unfold mX9_grow_l10f
      rw [if_pos (by decide), xts]) (h := hk σ (rowUp J 423 (J 423)) L) ⟨J 423, rfl, gr_top⟩
  rw [← nI_as, rowUp_id] at e
  have j4' : J 420 4 = nI F := by rw [hJ, rowUp_same, updA_same]
  refine ⟨r', by rw [j4']; exact e, fun fs so h1 h2 => hr' fs so h1 h2 ?_⟩
  rcases Nat.eq_zero_or_pos fs with q | q
  · exact Or.inr ⟨q, Nat.zero_le _⟩
  · exact Or.inl q
end Grow
