section Q11
variable {σ : Sg} {I I' J I1 I2 : Nat → Nat → Int32} {L L' L1 L2 : Nat → Nat → Int64}
theorem TR.up {T N : Nat → Nat} {k : Nat} (h : TR T N k I) {a : Nat} (r : Nat → Int32) (h1 : a ≠ 420) (h2 : a ≠ 423) : TR T N k (rowUp I a r) := ⟨by rw [rowUp_at, if_neg (Ne.symm h1)]; exact h.1, fun fs so a1 a2 => by rw [rowUp_at, if_neg (Ne.symm h2)]; exact h.2 fs so a1 a2⟩
theorem countTrials_ok {T N : Nat → Nat} (hW : WT T) (hTh : Th I) {k : Nat} (hT : TR T N k I) : ∃ r, mX9_countTrials 420 (hk σ I L) = some (hk σ (rowUp I 424 r) L) ∧ ∀ fs so, sb fs (fre T N) → sb so fs → r (nd fs so) = nI (btr T N k (nd fs so)) := by
  have hF := fre_lt (N := N) hW
  have tr : ∀ r, TR T N k (rowUp I 424 r) := fun r => hT.up r (by decide) (by decide)
  have tt : ∀ r, Th (rowUp I 424 r) := fun r => hTh.up r (by decide)
  have inner : ∀ (x s : Nat) (r : Nat → Int32), x < 256 → sb x (fre T N) → s ≤ x → gr (fun fs so => btr T N k (nd fs so)) (fre T N) r x (s + 1) → ∃ h', mX9_countTrials_l11f 420 (nI x) (nI s) (hk σ (rowUp I 424 r) L) = some (.inl (nI s + -1, h')) ∧ ∃ r', h' = hk σ (rowUp I 424 r') L ∧ gr (fun fs so => btr T N k (nd fs so)) (fre T N) r' x s := by
    intro x s r hx hxF hsx hg
    have hs : s < 256 := by omega
    have hn := nd_lt x s
    have fin : ∀ v, v = nI (btr T N k (nd x s)) → sb s x → ∃ h', mX9_countTrials_b68 420 (nI x) (nI s) 424 (nI (nd x s)) v (hk σ (rowUp I 424 r) L) = some (.inl (nI s + -1, h')) ∧ ∃ r', h' = hk σ (rowUp I 424 r') L ∧ gr (fun fs so => btr T N k (nd fs so)) (fre T N) r' x s := by
      intro v hv hss
      unfold mX9_countTrials_b68 mX9_countTrials_b71
      rw [put_nI (n := 6561) rfl (by omega) hn, obind, setI_hk, rowUp_two, hpI_hk', rowUp_same, hv]
      exact ⟨_, rfl, _, rfl, grw_put (v := fun fs so => btr T N k (nd fs so)) hF hxF hss hg⟩
    unfold mX9_countTrials_l11f
    rw [if_neg (nI_pos (show s < 2 ^ 31 by omega)), gI_o 4 (n := 5) rfl, obind, (tr r).1, nx_not (by omega), if_pos (show nI (x ^^^ (x &&& fre T N)) = 0 by rw [sb_iff.mpr hxF]; rfl), nx_not (by omega)]
    by_cases hss : sb s x
    · have mk3 := (tr r).2 x s hxF hss
      have mvb : mv (cn (lft T N) (T 1) (nd x s)) (cn (lw T N k) (T 1) (nd x s)) ≤ 3 := by unfold mv; split <;> split <;> omega
      rw [if_pos (show nI (s ^^^ (s &&& x)) = 0 by rw [sb_iff.mpr hss]; rfl), node_ok (tt r) hx hs, obind, g9, RF_420_3, g9, RF_420_2, at_r (n := 6561) rfl hn (by omega), obind, mk3, show (3 : Int32) = nI 3 from rfl, c_eqd (by omega) (by omega)]
      by_cases hm : mix T N k (nd x s) = true
      · rw [if_pos (mix_mv.mpr hm), fewest_ok hW (tt r) (tr r).1 hxF hss hm fun f q1 q2 => ⟨by rw [rowUp_same]; exact hg _ _ (sb_or hxF q2) (sb_or1 hss) (Or.inl (or_gt q1)), by rw [rowUp_same]; exact hg _ _ (sb_or hxF q2) (sb_or2 hss) (Or.inl (or_gt q1))⟩, obind]
        exact fin _ rfl hss
      · rw [if_neg (fun z => hm (mix_mv.mp z))]
        exact fin 0 (by rw [btr_eq (nd_T hW hxF hss), if_neg hm]; rfl) hss
    · rw [if_neg (show ¬ nI (s ^^^ (s &&& x)) = 0 from fun z => hss (sb_iff.mp (by
        have hb : s ^^^ (s &&& x) < 256 := Nat.xor_lt_two_pow (n := 8) hs (Nat.lt_of_le_of_lt Nat.and_le_left hs)
        exact (nI_eq (by omega) (by omega)).mp z)))]
      unfold mX9_countTrials_b71
      exact ⟨_, rfl, r, rfl, gr_skip hss hg⟩
  have outer : ∀ (x : Nat) (r : Nat → Int32), x < 256 → gr (fun fs so => btr T N k (nd fs so)) (fre T N) r (x + 1) 0 → ∃ h', mX9_countTrials_l5f 420 (nI x) (hk σ (rowUp I 424 r) L) = some (.inl (nI x + -1, h')) ∧ ∃ r', h' = hk σ (rowUp I 424 r') L ∧ gr (fun fs so => btr T N k (nd fs so)) (fre T N) r' x 0 := by
    intro x r hx hg
    unfold mX9_countTrials_l5f
    rw [if_neg (nI_pos (show x < 2 ^ 31 by omega))]
    unfold mX9_countTrials_l11
    by_cases hxF : sb x (fre T N)
    · obtain ⟨o, e, r', rfl, hr'⟩ := lp_dn (f := fun s : Int32 × Hp => mX9_countTrials_l11f 420 (nI x) s.1 s.2) (x + 1) (fun m h => ∃ r, h = hk σ (rowUp I 424 r) L ∧ gr (fun fs so => btr T N k (nd fs so)) (fre T N) r x m)
        (fun o => ∃ r', o = .inl (nI x + -1, hk σ (rowUp I 424 r') L) ∧ gr (fun fs so => btr T N k (nd fs so)) (fre T N) r' x 0)
        (fun s h hs hQ => by
          obtain ⟨r, rfl, hg⟩ := hQ
          exact inner x s r hx hxF (by omega) hg)
        (fun h hQ => by
          obtain ⟨r, rfl, hg⟩ := hQ
          refine ⟨_, ?_, r, rfl, hg⟩
          show mX9_countTrials_l11f 420 (nI x) (-1) (hk σ (rowUp I 424 r) L) = _
          unfold mX9_countTrials_l11f mX9_countTrials_b77
          rw [if_pos (by decide), xts]) (h := hk σ (rowUp I 424 r) L) ⟨r, rfl, gr_next hg⟩
      rw [← nI_as] at e
      exact ⟨_, e, r', rfl, hr'⟩
    · refine ⟨_, lp_inr (r := (Sum.inl (nI x + -1, hk σ (rowUp I 424 r) L) : (Int32 × Hp) ⊕ Hp)) ?_, r, rfl, gr_no hxF hg⟩
      show mX9_countTrials_l11f 420 (nI x) (nI x) (hk σ (rowUp I 424 r) L) = _
      unfold mX9_countTrials_l11f mX9_countTrials_b77
      rw [if_neg (nI_pos (show x < 2 ^ 31 by omega)), gI_o 4 (n := 5) rfl, obind, (tr r).1, nx_not (by omega), if_neg (show ¬ nI (x ^^^ (x &&& fre T N)) = 0 from fun z => hxF (sb_iff.mp (by
        have hb : x ^^^ (x &&& fre T N) < 256 := Nat.xor_lt_two_pow (n := 8) hx (Nat.lt_of_le_of_lt Nat.and_le_left hx)
        exact (nI_eq (by omega) (by omega)).mp z))), xts]
  unfold mX9_countTrials mX9_countTrials_l5
  rw [if_pos s420, gI_o 4 (n := 5) rfl, obind, hT.1]
  obtain ⟨o, e, r', rfl, hr'⟩ := lp_dn (f := fun s : Int32 × Hp => mX9_countTrials_l5f 420 s.1 s.2) (fre T N + 1) (fun m h => ∃ r, h = hk σ (rowUp I 424 r) L ∧ gr (fun fs so => btr T N k (nd fs so)) (fre T N) r m 0)
    (fun o => ∃ r', o = hk σ (rowUp I 424 r') L ∧ gr (fun fs so => btr T N k (nd fs so)) (fre T N) r' 0 0)
    (fun x h hx hQ => by
      obtain ⟨r, rfl, hg⟩ := hQ
      exact outer x r (by omega) hg)
    (fun h hQ => by
      obtain ⟨r, rfl, hg⟩ := hQ
      refine ⟨_, ?_, r, rfl, hg⟩
      show mX9_countTrials_l5f 420 (-1) (hk σ (rowUp I 424 r) L) = _
      unfold mX9_countTrials_l5f
      rw [if_pos (by decide), xts]) (h := hk σ (rowUp I 424 (I 424)) L) ⟨I 424, rfl, gr_top⟩
  rw [← nI_as, rowUp_id] at e
  refine ⟨r', e, fun fs so h1 h2 => hr' fs so h1 h2 ?_⟩
  rcases Nat.eq_zero_or_pos fs with q | q
  · exact Or.inr ⟨q, Nat.zero_le _⟩
  · exact Or.inl q
theorem sb_0 (a : Nat) : sb 0 a := fun i hi => by rw [Nat.zero_testBit] at hi; cases hi
theorem nd_00 : nd 0 0 = 0 := by decide
theorem mnf_at {g : Nat → Nat} {p : Nat → Bool} {z : Nat} : ∀ {n}, mnf g p z n < z → ∃ f, f < n ∧ p f = true ∧ g f = mnf g p z n
  | 0, h => absurd h (Nat.lt_irrefl _)
  | n + 1, h => by
    rw [mnfS] at h ⊢
    by_cases q : p n = true
    · rw [if_pos q] at h ⊢
      by_cases q2 : g n ≤ mnf g p z n
      · exact ⟨n, by omega, q, (Nat.min_eq_right q2).symm⟩
      · obtain ⟨f, h1, h2, h3⟩ := mnf_at (g := g) (p := p) (z := z) (n := n) (by omega)
        exact ⟨f, by omega, h2, by rw [h3]; omega⟩
    · rw [if_neg q] at h ⊢
      obtain ⟨f, h1, h2, h3⟩ := mnf_at h
      exact ⟨f, by omega, h2, h3⟩
end Q11
