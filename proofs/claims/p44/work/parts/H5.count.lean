/-! LINES of a suit: a count -/
section H5
variable {σ : Sg} {I I' J I1 I2 I3 Ja : Nat → Nat → Int32} {L L' L1 L2 : Nat → Nat → Int64} {X : Nat → Nat} {n m i la off t1 t2 dp h0 N kk lim s v0 k b j w r d0 : Nat} {T T' : Nat → Nat} {R R' : List (Nat × Nat)} {v : Vt}
theorem SP.ext (h : SP T lim) (g : GR T T') (hk : T 2 ≤ 4) (lo : ∀ j, j < 84 → j ≠ 7 → (j < 31 + 4 * T 2 ∨ 35 + 4 * T 2 ≤ j) → T' j = T j) (hl : ∀ s, s < T' 7 → cT T' s < 100 → cT T' s < T 1) : SP T' lim ∧ may T' = may T ∧ fst0 T' = fst0 T := by
  obtain ⟨⟨a1, a2, a3, a4, a5, a6, a7⟩, b, c, d, ee, ff, gq, hh, w0, w01, w02⟩ := id h
  have lw : ∀ j, j < 31 → j ≠ 7 → T' j = T j := fun j h1 h2 => lo j (by omega) h2 (by omega)
  have hi : ∀ j, 51 ≤ j → j < 84 → T' j = T j := fun j h1 h2 => lo j h2 (by omega) (by omega)
  have em : may T' = may T := g.mayc h (lw 3 (by omega) (by omega)) (fun k hk' => hi _ (by omega) (by omega))
  have ef : fst0 T' = fst0 T := fst0_cg (lw 2 (by omega) (by omega)) (fun k hk' => hi _ (by omega) (by omega))
  refine ⟨⟨⟨?_, ?_, ?_, ?_, a5, ?_, ?_⟩, fun f hf => ?_, fun k2 hk2 => ?_, fun k2 h1 h2 => ?_, fun p hp => ?_, fun k2 hk2 => ?_, fun e he => ?_, ?_, w0, ?_, ?_⟩, em, ef⟩
  · rw [lw 1 (by omega) (by omega)]; exact a1
  · rw [lw 2 (by omega) (by omega)]; exact a2
  · rw [lw 3 (by omega) (by omega)]; exact a3
  · rw [lw 4 (by omega) (by omega)]; exact a4
  · rw [lw 5 (by omega) (by omega)]; exact a6
  · rw [lw 6 (by omega) (by omega), lw 3 (by omega) (by omega), lw 4 (by omega) (by omega), lw 2 (by omega) (by omega), ndT_cg (fun k2 h2 => lw _ (by omega) (by omega))]; exact a7
  · rw [lw 1 (by omega) (by omega)] at hf
    rw [lw (8 + f) (by omega) (by omega)]; exact b f hf
  · rw [lw 2 (by omega) (by omega)] at hk2
    obtain ⟨c1, c2, c3, c4, c5, c6, c7⟩ := c k2 hk2
    refine ⟨?_, ?_, ?_, fun i hi' => ?_, ?_, ?_, ?_⟩
    · rw [lw (16 + k2) (by omega) (by omega)]; exact c1
    · rw [lw (21 + k2) (by omega) (by omega)]; exact c2
    · rw [lw (26 + k2) (by omega) (by omega)]; exact c3
    · rw [lw (26 + k2) (by omega) (by omega)] at hi'
      rw [lo (31 + 4 * k2 + i) (by omega) (by omega) (by omega), lw 6 (by omega) (by omega)]
      exact c4 i hi'
    · rw [hi (51 + k2) (by omega) (by omega), lw 1 (by omega) (by omega)]; exact c5
    · rw [hi (51 + k2) (by omega) (by omega), hi (56 + k2) (by omega) (by omega)]; exact c6
    · rw [hi (61 + k2) (by omega) (by omega), lw 2 (by omega) (by omega)]; exact c7
  · rw [lw 2 (by omega) (by omega)] at h1
    rw [hi (51 + k2) (by omega) (by omega), hi (56 + k2) (by omega) (by omega), hi (61 + k2) (by omega) (by omega)]
    exact d k2 h1 h2
  · rw [lw 4 (by omega) (by omega)] at hp
    rw [hi (66 + p) (by omega) (by omega), hi (72 + p) (by omega) (by omega), lw 2 (by omega) (by omega), lw 6 (by omega) (by omega)]
    exact ee p hp
  · rw [lw 3 (by omega) (by omega)] at hk2
    rw [hi (78 + k2) (by omega) (by omega), lw 6 (by omega) (by omega)]
    exact ff k2 hk2
  · rw [lw 6 (by omega) (by omega)] at he
    rw [(g.2.2 e he).1, (g.2.2 e he).2]
    exact ⟨g.wfc (h.ew he).2 (h.ew he).1, Nat.le_trans (h.ew he).2 g.1⟩
  · rw [lw 1 (by omega) (by omega)]; exact hl
  · rw [lw 1 (by omega) (by omega)]; exact w01
  · rw [em]; exact w02
theorem SDr.ext (hla : isLa la) (hs : s = 268 ∨ s = 275) (h : SDr I L la s T lim) (hS : SP T lim) (g : GR T T') (hk : T 2 ≤ 4) (hj : j < 4) (lo : ∀ j, j < 84 → j ≠ 7 → (j < 31 + 4 * T 2 ∨ 35 + 4 * T 2 ≤ j) → T' j = T j)
    (em : may T' = may T) (ef : fst0 T' = fst0 T) (fx : ∀ x, x ≠ 282 → x ≠ la → x ≠ la + 7 → x ≠ la + 8 → x ≠ la + 9 → I' x = I x) (fk : ∀ k, k ≠ 13 → I' la k = I la k)
    (f8 : ∀ q, q ≠ 4 * T 2 + j → I' (la + 8) q = I (la + 8) q) (f9 : ∀ q, q ≠ 4 * T 2 + j → I' (la + 9) q = I (la + 9) q) (hq : sl I' la T' (4 * T 2 + j)) : SDr I' L la s T' lim := by
  have hla' : la = 112 ∨ la = 190 := hla
  obtain ⟨⟨a1, a2, a3, a4, a5, a6, a7⟩, b, c, d, ee, ff, gq, hh, w0, w01, w02⟩ := id hS
  have lw : ∀ j, j < 31 → j ≠ 7 → T' j = T j := fun j h1 h2 => lo j (by omega) h2 (by omega)
  have hi : ∀ j, 51 ≤ j → j < 84 → T' j = T j := fun j h1 h2 => lo j h2 (by omega) (by omega)
  obtain ⟨⟨d0, d3, d4, d5, dm⟩, dO, dk, ds, dp', dq, ⟨dj, d2⟩, dst⟩ := h
  refine ⟨⟨?_, ?_, ?_, ?_, ?_⟩, fun f hf => ?_, fun k2 hk2 => ?_, fun k2 hk2 => ?_, fun p hp => ?_, fun q hq' => ?_, ⟨fun j h1 h2 => ?_, ?_⟩, fun k2 hk2 => ?_⟩
  · rw [fk 0 (by omega), lw 0 (by omega) (by omega)]; exact d0
  · rw [fk 3 (by omega), lw 3 (by omega) (by omega)]; exact d3
  · rw [fk 4 (by omega), lw 4 (by omega) (by omega)]; exact d4
  · rw [fk 5 (by omega)]; exact d5
  · rw [em]; exact dm
  · rw [lw 1 (by omega) (by omega)] at hf
    rw [fx (la + 1) (by omega) (by omega) (by omega) (by omega) (by omega), lw (8 + f) (by omega) (by omega)]; exact dO f hf
  · rw [lw 2 (by omega) (by omega)] at hk2
    have c3 := (c k2 hk2).2.2.1
    rw [fx (la + 3) (by omega) (by omega) (by omega) (by omega) (by omega), fx (la + 6) (by omega) (by omega) (by omega) (by omega) (by omega), lw (26 + k2) (by omega) (by omega), ef]
    refine ⟨(dk k2 hk2).1, (dk k2 hk2).2.1, fun i hi' => ?_⟩
    have c4 := (c k2 hk2).2.2.2.1 i hi'
    rw [lo (31 + 4 * k2 + i) (by omega) (by omega) (by omega), (g.2.2 _ c4).1, (g.2.2 _ c4).2, f8 _ (by omega), f9 _ (by omega)]
    exact (dk k2 hk2).2.2 i hi'
  · rw [fx (la + 5) (by omega) (by omega) (by omega) (by omega) (by omega), hi (61 + k2) (by omega) (by omega)]
    exact ds k2 hk2
  · rw [lw 4 (by omega) (by omega)] at hp
    have c4 := (ee p hp).2
    rw [fx (la + 4) (by omega) (by omega) (by omega) (by omega) (by omega), hi (66 + p) (by omega) (by omega), hi (72 + p) (by omega) (by omega), (g.2.2 _ c4).1, (g.2.2 _ c4).2, f8 _ (by omega), f9 _ (by omega)]
    exact dp' p hp
  · by_cases e : q = 4 * T 2 + j
    · rw [e]; exact hq
    · exact g.slc (dq q hq') (f8 q e) (f9 q e)
  · rw [fx s (by omega) (by omega) (by omega) (by omega) (by omega)]; exact dj j h1 h2
  · rw [fx s (by omega) (by omega) (by omega) (by omega) (by omega), lw 2 (by omega) (by omega)]; exact d2
  · rw [lw 2 (by omega) (by omega)] at hk2
    rw [fx (s + 1) (by omega) (by omega) (by omega) (by omega) (by omega), fx (s + 2) (by omega) (by omega) (by omega) (by omega) (by omega), fx (s + 3) (by omega) (by omega) (by omega) (by omega) (by omega), fx (s + 4) (by omega) (by omega) (by omega) (by omega) (by omega), fx (s + 5) (by omega) (by omega) (by omega) (by omega) (by omega), fx (s + 6) (by omega) (by omega) (by omega) (by omega) (by omega), lw (16 + k2) (by omega) (by omega), lw (21 + k2) (by omega) (by omega), hi (51 + k2) (by omega) (by omega), hi (56 + k2) (by omega) (by omega)]
    exact dst k2 hk2
/-- a count, as far as its needs are read -/
def CI (I : Nat → Nat → Int32) (L : Nat → Nat → Int64) (X : Nat → Nat) (n m i la s : Nat) (T : Nat → Nat) (lim k b j : Nat) (R : List (Nat × Nat)) (v : Vt) : Prop :=
  PE I X n m la 0 (T 1) k T i R ∧ (T 2 = k ∧ k ≤ 4 ∧ T 6 = b + j ∧ j ≤ 4) ∧ SP (updA T 6 b) lim ∧ SDr I L la s (updA T 6 b) lim ∧
  (∀ x, x < j → T (31 + 4 * k + x) = b + x ∧ wfE (cT T) (T (84 + (b + x))) (T (117 + (b + x))) ∧ T (117 + (b + x)) ≤ T 7 ∧ I (la + 8) (4 * k + x) = nI (T (84 + (b + x))) ∧ I (la + 9) (4 * k + x) = nI (T (117 + (b + x)))) ∧ SOk L ∧ VW (updA T 6 b) lim v
theorem need_room (h : CI I L X n m i la s T lim k b j R v) : b ≤ 12 + 4 * k ∧ T 7 ≤ 480 ∧ T 7 ≤ i := by
  obtain ⟨hp, ⟨h2, h4, h6, hj⟩, hS, _⟩ := h
  have t6 := hS.t6
  have e1 : updA T 6 b 6 = b := updA_same _ _ _
  have e2 : updA T 6 b 2 = k := by rw [updA_ne _ _ (by omega), h2]
  have := hp.1.le.2
  have := hp.2.2.2.2
  rw [e1, e2] at t6
  omega
/-- one need more -/
theorem cneed_ok {name w r : Int32} {v0 : Nat} {Tt : Tr d0} (hla : isLa la) (hg : gpl σ = la) (hs : s = 268 ∨ s = 275) (hd : d0 ≤ 2) (ok : okT (T 1) d0 Tt) (h : CI I L X n m i la s T lim k b j ((261, v0) :: (kA d0 Tt ++ R')) v) (hbd : badE (hdk R') = false) (hj : j < 4) :
    ∃ I' T', mX2_readCount_l103 282 name w r (nI j) (nI j) (hk σ I L) = mX2_readCount_l103 282 name w r (nI (j + 1)) (nI (j + 1)) (hk σ I' L) ∧ CI I' L X n m (i + 1 + (kA d0 Tt).length) la s T' lim k b (j + 1) R' v ∧ T' 0 = T 0 ∧ T' 1 = T 1 ∧ FS la s I L I' L := by
  have hla' : la = 112 ∨ la = 190 := hla
  obtain ⟨hb, h7, h7i⟩ := need_room h
  obtain ⟨hp, ⟨h2, h4, h6, hj4⟩, hS, hD, hx, hO, hv⟩ := h
  have b1 : T 1 ≤ 8 := hp.2.2.1.1
  obtain ⟨I1, v1, v2, vt, v3, v4⟩ := exp_ok (σ := σ) (L := L) hp.1 hp.2.1
  have v1 : mX2_expect 282 (261 : Int32) (hk σ I L) = some (1, hk σ I1 L) := v1
  have p1 := hp.go hla v2 vt v3
  have c2 : I1 la 2 = nI k := p1.2.2.1.2.2.2.1
  have nk : mX2_nextKind 282 (hk σ I L) = some (nI 261) := at_kind hp.1 hp.2.1
  have clsS : ∀ {o : Option ((Int32 × Int32 × Hp) ⊕ (Int32 × Hp))}, mX2_readCount_b124 282 name w r (nI j) (nI j) (hk σ I L) = o → mX2_readCount_l103f 282 name w r (nI j) (nI j) (hk σ I L) = o := fun {o} h => by
    unfold mX2_readCount_l103f
    rw [if_pos (show nI j < (4 : Int32) from nI_lt (b := 4) hj (by omega)), h, nk, obind, if_pos (show nI 261 = (261 : Int32) from rfl)]
    by_cases q : nI j = 0
    · rw [if_pos q]
    · rw [if_neg q]
  obtain ⟨I3, T3, c1, p4, a6, a84, a117, a2', r2, x8, x9, f2, g2⟩ := into_ok (σ := σ) (L := L) hla hg b1 hd ok p1 hbd (by omega) (s := 4 * k + j) (by omega)
  have rge := r2.1.1
  obtain ⟨T', hT⟩ : ∃ T', T' = updA T3 (31 + 4 * k + j) (b + j) := ⟨_, rfl⟩
  have s1 := p4.set (k := 31 + 4 * k + j) (b + j) (by omega) (by omega)
  rw [← hT] at s1
  have un : ∀ x, x ≠ 31 + 4 * k + j → T' x = T3 x := fun x hx => by rw [hT, updA_ne _ _ hx]
  have t3 : ∀ x, x < 84 → x ≠ 7 → x ≠ 6 → T3 x = T x := fun x h1 h2 h3 => a2' x h2 h3 (by omega) (by omega) (by omega)
  have w1 : T' 1 = T 1 := by rw [un 1 (by omega), t3 1 (by omega) (by omega) (by omega)]
  have w2 : T' 2 = k := by rw [un 2 (by omega), t3 2 (by omega) (by omega) (by omega), h2]
  have w6 : T' 6 = b + (j + 1) := by rw [un 6 (by omega), a6, h6, Nat.add_assoc]
  have w7 : T' 7 = T3 7 := un 7 (by omega)
  have wc : cT T' = cT T3 := by funext x; exact un _ (by omega)
  have wU : cT (updA T 6 b) = cT T := by funext x; exact updA_ne _ _ (by omega)
  have wU' : cT (updA T' 6 b) = cT T3 := by rw [← wc]; funext x; exact updA_ne _ _ (by omega)
  have U6 : updA T 6 b 6 = b := updA_same _ _ _
  have U7 : updA T 6 b 7 = T 7 := updA_ne _ _ (by omega)
  have U7' : updA T' 6 b 7 = T3 7 := by rw [updA_ne _ _ (by omega), w7]
  have U1 : updA T 6 b 1 = T 1 := updA_ne _ _ (by omega)
  have U2 : updA T 6 b 2 = k := by rw [updA_ne _ _ (by omega), h2]
  have g0 : ∀ e, e < b + j → T' (84 + e) = T (84 + e) ∧ T' (117 + e) = T (117 + e) := fun e he => ⟨by rw [un _ (by omega)]; exact a2' _ (by omega) (by omega) (by omega) (by omega) (by omega), by rw [un _ (by omega)]; exact a2' _ (by omega) (by omega) (by omega) (by omega) (by omega)⟩
  have ctl : ∀ s, s < T 7 → cT T3 s = cT T s := fun s hs' => a2' (150 + s) (by omega) (by omega) (by omega) (by omega) (by omega)
  have gT : GR T T' := ⟨by rw [w7]; exact rge, fun x h1 h2 => by rw [un x (by omega)]; exact a2' x (by omega) (by omega) (by omega) (by omega) h2, fun e he => g0 e (by omega)⟩
  have g : GR (updA T 6 b) (updA T' 6 b) := ⟨by rw [U7, U7']; exact rge, fun x h1 h2 => by
      rw [U7] at h2
      rw [updA_ne _ _ (by omega), updA_ne _ _ (by omega)]
      exact gT.2.1 x h1 h2, fun e he => by
      rw [U6] at he
      rw [updA_ne _ _ (by omega), updA_ne _ _ (by omega), updA_ne _ _ (by omega), updA_ne _ _ (by omega)]
      exact g0 e (by omega)⟩
  have lo : ∀ x, x < 84 → x ≠ 7 → (x < 31 + 4 * updA T 6 b 2 ∨ 35 + 4 * updA T 6 b 2 ≤ x) → updA T' 6 b x = updA T 6 b x := fun x h1 h2 h3 => by
    rw [U2] at h3
    rw [updA_at, updA_at]
    by_cases e : x = 6
    · rw [if_pos e, if_pos e]
    · rw [if_neg e, if_neg e, un x (by omega), t3 x h1 h2 e]
  obtain ⟨nS, em, ef⟩ := hS.ext g (by rw [U2]; exact h4) lo (fun s hs' => by
    rw [U7'] at hs'
    rw [wU', U1]
    by_cases q : s < T 7
    · rw [ctl s q]
      have := hS.2.2.2.2.2.2.2.1 s (by rw [U7]; exact q)
      rw [wU, U1] at this
      exact this
    · exact r2.2 s (by omega) hs')
  have ii3 : ∀ x, x ≠ 282 → x ≠ la → x ≠ la + 7 → x ≠ la + 8 → x ≠ la + 9 → I3 x = I x := fun x a b c d e => by rw [f2 x a b c d e, v3 x a]
  have x8' : I3 (la + 8) = updA (I (la + 8)) (4 * k + j) (nI (T 7)) := by rw [x8, v3 _ (by omega)]
  have x9' : I3 (la + 9) = updA (I (la + 9)) (4 * k + j) (nI (T3 7)) := by rw [x9, v3 _ (by omega)]
  have nD : SDr I3 L la s (updA T' 6 b) lim := by
    refine hD.ext (j := j) hla hs hS g (by rw [U2]; exact h4) hj lo em ef ii3 (fun x hx => by rw [g2 x hx, v3 _ (by omega)]) (fun q hq => ?_) (fun q hq => ?_) ?_
    · rw [U2] at hq; rw [x8', updA_ne _ _ hq]
    · rw [U2] at hq; rw [x9', updA_ne _ _ hq]
    · rw [U2]
      exact ⟨T 7, T3 7, by rw [x8', updA_same], by rw [x9', updA_same], rge, by rw [U7']; exact Nat.le_refl _, by rw [wU']; exact r2.wf.2.1⟩
  have w0 : updA T' 6 b 7 = T3 7 := U7'
  refine ⟨I3, T', ?_, ⟨by rw [w1]; exact s1, ⟨w2, h4, w6, by omega⟩, nS, nD, fun x hx' => ?_, hO, ⟨?_, ?_, ?_, ?_, hv.2.2.2.2.1, fun k2 hk2 => ?_, fun k2 hk2 => ?_, fun w => by rw [em]; exact hv.2.2.2.2.2.2.2 w⟩⟩, by rw [un 0 (by omega), t3 0 (by omega) (by omega) (by omega)], w1, ⟨fun x a b c d => ii3 x a (by omega) (by omega) (by omega) (by omega), fun _ _ _ _ => rfl⟩⟩
  · unfold mX2_readCount_l103
    refine lp_inl ?_
    show mX2_readCount_l103f 282 name w r (nI j) (nI j) (hk σ I L) = _
    refine clsS ?_
    unfold mX2_readCount_b124
    rw [v1, b2s, if_neg (show ¬ (1 : Int32) = 0 by decide), gDr, hg, gI_la hla, obind, c2, needSlot_nI, obind, c1, b2s, if_neg (show ¬ (1 : Int32) = 0 by decide), nI_1]
  · by_cases q : x = j
    · subst q
      have e84 : T' (84 + (b + x)) = T 7 := by rw [un _ (by omega), ← h6, a84]
      have e117 : T' (117 + (b + x)) = T3 7 := by rw [un _ (by omega), ← h6, a117]
      rw [e84, e117, w7, wc, x8', x9', updA_same, updA_same]
      exact ⟨by rw [hT, updA_same], r2.wf, Nat.le_refl _, rfl, rfl⟩
    · obtain ⟨z1, z2, z3, z4, z5⟩ := hx x (by omega)
      rw [(g0 (b + x) (by omega)).1, (g0 (b + x) (by omega)).2, w7, wc, x8', x9', updA_ne _ _ (by omega), updA_ne _ _ (by omega)]
      refine ⟨by rw [un _ (by omega), t3 _ (by omega) (by omega) (by omega)]; exact z1, ?_, by omega, z4, z5⟩
      have := gT.wfc z3 z2
      rw [wc] at this
      exact this
  · rw [lo 1 (by omega) (by omega) (by omega)]; exact hv.1
  · rw [lo 2 (by omega) (by omega) (by omega)]; exact hv.2.1
  · rw [lo 3 (by omega) (by omega) (by omega)]; exact hv.2.2.1
  · rw [lo 4 (by omega) (by omega) (by omega)]; exact hv.2.2.2.1
  · rw [lo (51 + k2) (by omega) (by omega) (by omega)]; exact hv.2.2.2.2.2.1 k2 hk2
  · rw [lo (61 + k2) (by omega) (by omega) (by omega)]; exact hv.2.2.2.2.2.2.1 k2 hk2
theorem fst0_new {U : Nat → Nat} {k : Nat} (h2 : U 2 = k) (hk : k ≤ 4) (h2' : T' 2 = k + 1) (h : ∀ x, x ≤ k → T' (61 + x) = U (61 + x)) (hz : U (61 + k) = 0) (hb : ∀ x, x < k → U (61 + x) < 2 ^ k) : fst0 T' = fst0 U ∧ fst0 U k = k := by
  have e0 : ∀ i, (U (61 + k)).testBit i = false := fun i => by rw [hz]; exact Nat.zero_testBit i
  have ek : ∀ x, x ≤ k → (U (61 + x)).testBit k = false := fun x hx => by
    by_cases q : x = k
    · rw [q]; exact e0 k
    · exact Nat.testBit_lt_two_pow (hb x (by omega))
  have hm : smB T' = smB U := by
    funext x y
    unfold smB
    rw [h2, h2']
    by_cases hx : x ≤ k
    · by_cases hy : y ≤ k
      · rw [h x hx, h y hy, decide_eq_true (show x < k + 1 by omega), decide_eq_true (show y < k + 1 by omega)]
        by_cases qx : x = k
        · rw [qx, e0 y, ek y hy]; simp
        · by_cases qy : y = k
          · rw [qy, e0 x, ek x hx]; simp
          · rw [decide_eq_true (show x < k by omega), decide_eq_true (show y < k by omega)]
      · rw [decide_eq_false (show ¬ y < k + 1 by omega), decide_eq_false (show ¬ y < k by omega)]; simp
    · rw [decide_eq_false (show ¬ x < k + 1 by omega), decide_eq_false (show ¬ x < k by omega)]; simp
  refine ⟨by unfold fst0; rw [hm], ?_⟩
  obtain ⟨g1, g2, g3⟩ := fz_spec (R := smB U) (k := k) (by omega)
  have := rea_F (R := smB U) (F := fun x => if x = k then 1 else 0) (fun a c ha hc hr => by
    unfold smB at hr
    rw [h2] at hr
    have ha' : a < k := by
      by_cases q : a < k
      · exact q
      · rw [decide_eq_false q] at hr; simp at hr
    have hc' : c < k := by
      by_cases q : c < k
      · exact q
      · rw [decide_eq_false q] at hr; simp at hr
    show (if a = k then 1 else 0) = if c = k then 1 else 0
    rw [if_neg (by omega), if_neg (by omega)]) 8 k (fz (smB U) k) (by omega) g2
  by_cases q : fz (smB U) k = k
  · exact q
  · rw [if_pos rfl, if_neg q] at this; cases this
/-- the end of a count's line -/
theorem cend_ok {w r : Nat} (hla : isLa la) (hg : gpl σ = la) (hgs : gps σ = s) (hs : s = 268 ∨ s = 275) (h : CI I L X n m i la s T lim k b j ((59, 0) :: R') v) (hw : w ≤ 999) (hr : r ≤ 999) (hj : 0 < j) :
    LQ σ I L X n m la s T (i + 1) R' (v.1, v.2.1 + 1, v.2.2) (mX2_readCount_l103 282 (nI (97 + k)) (nI w) (nI r) (nI j) (nI j) (hk σ I L)) := by
  have hla' : la = 112 ∨ la = 190 := hla
  have hst : isSt s := by unfold isSt; omega
  obtain ⟨hb, h7, h7i⟩ := need_room h
  obtain ⟨hp, ⟨h2, h4, h6, hj4⟩, hS, hD, hx, hO, hv⟩ := h
  have nk : mX2_nextKind 282 (hk σ I L) = some (nI 59) := at_kind hp.1 hp.2.1
  have cls : ∀ {o : Option (Int32 × Hp)} {v}, o = some v → mX2_readCount_b164 282 (nI (97 + k)) (nI w) (nI r) (nI j) (hk σ I L) = o → mX2_readCount_l103 282 (nI (97 + k)) (nI w) (nI r) (nI j) (nI j) (hk σ I L) = some v := fun {o v} ho h => by
    unfold mX2_readCount_l103
    refine lp_inr ?_
    show mX2_readCount_l103f 282 (nI (97 + k)) (nI w) (nI r) (nI j) (nI j) (hk σ I L) = _
    unfold mX2_readCount_l103f
    rw [h, ho, xts]
    by_cases q : j < 4
    · rw [if_pos (show nI j < (4 : Int32) from nI_lt (b := 4) q (by omega)), if_neg (show ¬ nI j = (0 : Int32) from fun z => by have := (nI_eq (a := j) (b := 0) (by omega) (by omega)).mp z; omega), nk, obind, if_neg (show ¬ nI 59 = (261 : Int32) by decide)]
    · rw [if_neg (show ¬ nI j < (4 : Int32) from nI_nlt (b := 4) (by omega) (by omega))]
  obtain ⟨c8, c5, c1, c2, cf, cn⟩ := id hp.2.2.1
  have U6 : updA T 6 b 6 = b := updA_same _ _ _
  have Un : ∀ x, x ≠ 6 → updA T 6 b x = T x := fun x hx => updA_ne _ _ hx
  have Uc : cT (updA T 6 b) = cT T := by funext x; exact Un _ (by omega)
  obtain ⟨Ic, hIc⟩ : ∃ Ic, Ic = rowUp (rowUp (rowUp I (la + 2) (updA (I (la + 2)) (8 + k) (nI (97 + k)))) (la + 3) (updA (I (la + 3)) k (nI j))) (la + 6) (updA (I (la + 6)) k (nI k)) := ⟨_, rfl⟩
  have ic : ∀ x, x ≠ la + 2 → x ≠ la + 3 → x ≠ la + 6 → Ic x = I x := fun x a b c => by rw [hIc, rowUp_ne _ _ c, rowUp_ne _ _ b, rowUp_ne _ _ a]
  have ic2 : Ic (la + 2) = updA (I (la + 2)) (8 + k) (nI (97 + k)) := by rw [hIc, rowUp_ne _ _ (by omega), rowUp_ne _ _ (by omega), rowUp_same]
  have ic3 : Ic (la + 3) = updA (I (la + 3)) k (nI j) := by rw [hIc, rowUp_ne _ _ (by omega), rowUp_same]
  have ic6 : Ic (la + 6) = updA (I (la + 6)) k (nI k) := by rw [hIc, rowUp_same]
  have D7 := hD.2.2.2.2.2.2.1
  obtain ⟨Id, fe, q0, q1, q2, q3, q4, q5, q6, qo⟩ := file_ok (σ := σ) (I := Ic) (L := L) (k := k) (dy := 0) (nI k) (nI w) (nI r) hst (by omega) (by rw [ic s (by omega) (by omega) (by omega), D7.2, Un 2 (by omega), h2]) (by rw [ic s (by omega) (by omega) (by omega)]; exact D7.1 0 (by omega) (by omega))
  obtain ⟨Ie, hIe⟩ : ∃ Ie, Ie = rowUp Id la (updA (Id la) 2 (nI (k + 1))) := ⟨_, rfl⟩
  have ix : ∀ x, x ≠ la → x ≠ la + 2 → x ≠ la + 3 → x ≠ la + 6 → (x < s ∨ s + 7 ≤ x) → Ie x = I x := fun x a b c d e => by rw [hIe, rowUp_ne _ _ a, qo x e, ic x b c d]
  have ie0 : Ie la = updA (I la) 2 (nI (k + 1)) := by rw [hIe, rowUp_same, qo la (by omega), ic la (by omega) (by omega) (by omega)]
  have ie2 : Ie (la + 2) = updA (I (la + 2)) (8 + k) (nI (97 + k)) := by rw [hIe, rowUp_ne _ _ (by omega), qo _ (by omega), ic2]
  have ie3 : Ie (la + 3) = updA (I (la + 3)) k (nI j) := by rw [hIe, rowUp_ne _ _ (by omega), qo _ (by omega), ic3]
  have ie6 : Ie (la + 6) = updA (I (la + 6)) k (nI k) := by rw [hIe, rowUp_ne _ _ (by omega), qo _ (by omega), ic6]
  have ies : ∀ x, s ≤ x → x < s + 7 → Ie x = Id x := fun x a b => by rw [hIe, rowUp_ne _ _ (by omega)]
  have pc : PCk Ie X n m i := ⟨⟨hp.1.1.1, by rw [ix 282 (by omega) (by omega) (by omega) (by omega) (by omega)]; exact hp.1.1.2⟩, hp.1.2.1, ⟨by rw [ix 103 (by omega) (by omega) (by omega) (by omega) (by omega)]; exact hp.1.2.2.1.1, fun x hx => by rw [ix 104 (by omega) (by omega) (by omega) (by omega) (by omega), ix 105 (by omega) (by omega) (by omega) (by omega) (by omega), ix 106 (by omega) (by omega) (by omega) (by omega) (by omega)]; exact hp.1.2.2.1.2 x hx⟩, hp.1.2.2.2.1, hp.1.2.2.2.2.1, by rw [ix 282 (by omega) (by omega) (by omega) (by omega) (by omega)]; exact hp.1.2.2.2.2.2.1, hp.1.2.2.2.2.2.2⟩
  have b164 : mX2_readCount_b164 282 (nI (97 + k)) (nI w) (nI r) (nI j) (hk σ I L) = b2 (mX2_expect 282 (59 : Int32) (hk σ Ie L)) fun v48 h49 => (z01 v48).bind fun v => some (v, h49) := by
    unfold mX2_readCount_b164
    rw [nk, obind, if_neg (show ¬ nI 59 = (261 : Int32) by decide), gDr, hg, gR_la hla, obind, RF_la_7 σ hla, gDr, hg, gI_la hla, obind, c2, show (8 : Int32) = nI 8 from rfl, nI_add, put_nI (n := 13) (by rw [hpS_hk]; exact SH_la2 hla) (by omega) (by omega), obind, setI_hk, hpI_hk']
    rw [gDr, hg, gR_la hla, obind, RF_la_8 σ hla, gDr, hg, gI_la hla, obind, rowUp_ne _ _ (show la ≠ la + 2 by omega), c2, put_nI (n := 5) (by rw [hpS_hk]; exact SH_la3 hla) (by omega) (by omega), obind, setI_hk, hpI_hk', rowUp_ne _ _ (show la + 3 ≠ la + 2 by omega)]
    rw [gDr, hg, gR_la hla, obind, RF_la_11 σ hla, gDr, hg, gI_la hla, obind, gDr, hg, gI_la hla, obind, rowUp_ne _ _ (show la ≠ la + 3 by omega), rowUp_ne _ _ (show la ≠ la + 2 by omega), c2, put_nI (n := 5) (by rw [hpS_hk]; exact SH_la6 hla) (by omega) (by omega), obind, setI_hk, hpI_hk', rowUp_ne _ _ (show la + 6 ≠ la + 3 by omega), rowUp_ne _ _ (show la + 6 ≠ la + 2 by omega), ← hIc]
    rw [gDs, hgs, gDr, hg, gI_la hla, obind, ic la (by omega) (by omega) (by omega), c2, fe, b2s, gDr, hg, gI_la hla, obind, qo la (by omega), ic la (by omega) (by omega) (by omega), c2, nI_1, sI_la hla, obind, ← hIe]
  obtain ⟨I4, x1, x2, xt, x3, x4⟩ := exp_ok (σ := σ) (L := L) pc hp.2.1
  have x1 : mX2_expect 282 (59 : Int32) (hk σ Ie L) = some (1, hk σ I4 L) := x1
  obtain ⟨T', hT⟩ : ∃ T', T' = updA (updA (updA (updA T (16 + k) w) (21 + k) r) (26 + k) j) 2 (k + 1) := ⟨_, rfl⟩
  have v2 : updA (updA (updA T (16 + k) w) (21 + k) r) (26 + k) j 2 = k := by rw [updA_ne _ _ (by omega), updA_ne _ _ (by omega), updA_ne _ _ (by omega), h2]
  have w2 : T' 2 = k + 1 := by rw [hT, updA_same]
  have w16 : T' (16 + k) = w := by rw [hT, updA_ne _ _ (by omega), updA_ne _ _ (by omega), updA_ne _ _ (by omega), updA_same]
  have w21 : T' (21 + k) = r := by rw [hT, updA_ne _ _ (by omega), updA_ne _ _ (by omega), updA_same]
  have w26 : T' (26 + k) = j := by rw [hT, updA_ne _ _ (by omega), updA_same]
  have un : ∀ x, x ≠ 2 → x ≠ 16 + k → x ≠ 21 + k → x ≠ 26 + k → T' x = T x := fun x a b c d => by rw [hT, updA_ne _ _ a, updA_ne _ _ d, updA_ne _ _ c, updA_ne _ _ b]
  have w1 : T' 1 = T 1 := un 1 (by omega) (by omega) (by omega) (by omega)
  have wc : cT T' = cT T := by funext x; exact un _ (by omega) (by omega) (by omega) (by omega)
  have w7 : T' 7 = T 7 := un 7 (by omega) (by omega) (by omega) (by omega)
  have w6 : T' 6 = b + j := by rw [un 6 (by omega) (by omega) (by omega) (by omega), h6]
  have lo : ∀ x, x ≠ 2 → x ≠ 6 → x ≠ 16 + k → x ≠ 21 + k → x ≠ 26 + k → T' x = updA T 6 b x := fun x a b c d e => by rw [Un x b, un x a c d e]
  have g : GR (updA T 6 b) T' := ⟨by rw [w7, Un 7 (by omega)]; exact Nat.le_refl _, fun x h1 h2 => lo x (by omega) (by omega) (by omega) (by omega) (by omega), fun e he => ⟨lo _ (by omega) (by omega) (by omega) (by omega) (by omega), lo _ (by omega) (by omega) (by omega) (by omega) (by omega)⟩⟩
  have em : may T' = may (updA T 6 b) := g.mayc hS (lo 3 (by omega) (by omega) (by omega) (by omega) (by omega)) (fun x _ => lo _ (by omega) (by omega) (by omega) (by omega) (by omega))
  obtain ⟨⟨a1, a2, a3, a4, a5, a6, a7⟩, b', c, d, ee, ff, gq, hh, w0, w01, w02⟩ := id hS
  have U2 : updA T 6 b 2 = k := by rw [Un 2 (by omega), h2]
  have U1 : updA T 6 b 1 = T 1 := Un 1 (by omega)
  have dz := d k (by omega) (by omega)
  have pk2 : (2 : Nat) ^ k ≤ 2 ^ (k + 1) := Nat.pow_le_pow_right (by omega) (by omega)
  obtain ⟨ef, ek⟩ := fst0_new (T' := T') U2 h4 w2 (fun x hx => lo _ (by omega) (by omega) (by omega) (by omega) (by omega)) dz.2.2 (fun x hx => by have := (c x (by omega)).2.2.2.2.2.2; rw [U2] at this; exact this)
  obtain ⟨⟨d0, d3, d4, d5, dm⟩, dO, dk, ds, dp', dq, ⟨dj, d2⟩, dst⟩ := hD
  have i4 : ∀ x, x ≠ 282 → I4 x = Ie x := x3
  refine ⟨I4, L, T', lim, cls (by rw [b164, x1, b2s]; rfl) rfl, ⟨?_, ⟨⟨?_, ?_, ?_, ?_, a5, ?_, ?_⟩, fun f hf => ?_, fun k2 hk2 => ?_, fun k2 h1 h2 => ?_, fun p hp => ?_, fun k2 hk2 => ?_, fun e he => ?_, ?_, w0, ?_, ?_⟩, ⟨⟨?_, ?_, ?_, ?_, ?_⟩, fun f hf => ?_, fun k2 hk2 => ?_, fun k2 hk2 => ?_, fun p hp => ?_, fun q hq => ?_, ⟨fun j' h1 h2 => ?_, ?_⟩, fun k2 hk2 => ?_⟩, hO⟩, ⟨?_, ?_, ?_, ?_, hv.2.2.2.2.1, fun k2 hk2 => ?_, fun k2 hk2 => ?_, fun w => by rw [em]; exact hv.2.2.2.2.2.2.2 w⟩, un 0 (by omega) (by omega) (by omega) (by omega), ⟨fun x a b c d => by rw [i4 x a, ix x (by omega) (by omega) (by omega) (by omega) d], fun _ _ _ _ => rfl⟩⟩
  · refine ⟨x2, xt, ⟨by rw [w1]; exact c8, by rw [w2]; omega, ?_, ?_, fun f hf => ?_, fun k2 hk2 => ?_⟩, ⟨?_, fun x hx => ?_⟩, by omega⟩
    · rw [w1, i4 la (by omega), ie0, updA_ne _ _ (by omega)]; exact c1
    · rw [w2, i4 la (by omega), ie0, updA_same]
    · rw [w1] at hf
      rw [i4 _ (by omega), ie2, updA_ne _ _ (by omega)]; exact cf f hf
    · rw [w2] at hk2
      rw [i4 _ (by omega), ie2, updA_at]
      by_cases e : k2 = k
      · rw [if_pos (by omega), e]
      · rw [if_neg (by omega)]; exact cn k2 (by omega)
    · rw [w7, i4 la (by omega), ie0, updA_ne _ _ (by omega)]; exact hp.2.2.2.1.1
    · rw [w7] at hx
      rw [wc, i4 _ (by omega), ix (la + 7) (by omega) (by omega) (by omega) (by omega) (by omega)]
      exact hp.2.2.2.1.2 x hx
  · rw [w1, ← U1]; exact a1
  · rw [w2]; omega
  · rw [lo 3 (by omega) (by omega) (by omega) (by omega) (by omega)]; exact a3
  · rw [lo 4 (by omega) (by omega) (by omega) (by omega) (by omega)]; exact a4
  · rw [lo 5 (by omega) (by omega) (by omega) (by omega) (by omega)]; exact a6
  · rw [w6, w2, lo 3 (by omega) (by omega) (by omega) (by omega) (by omega), lo 4 (by omega) (by omega) (by omega) (by omega) (by omega)]
    show b + j = _ + _ + (ndT T' k + T' (26 + k))
    rw [w26, ndT_cg (T := updA T 6 b) (T' := T') (fun x hx => lo _ (by omega) (by omega) (by omega) (by omega) (by omega))]
    rw [U6, U2] at a7
    omega
  · rw [w1, ← U1] at hf
    rw [lo (8 + f) (by omega) (by omega) (by omega) (by omega) (by omega)]; exact b' f hf
  · rw [w2] at hk2
    by_cases q : k2 = k
    · subst q
      rw [w16, w21, w26, w6, lo (51 + k2) (by omega) (by omega) (by omega) (by omega) (by omega), lo (56 + k2) (by omega) (by omega) (by omega) (by omega) (by omega), lo (61 + k2) (by omega) (by omega) (by omega) (by omega) (by omega), dz.1, dz.2.1, dz.2.2]
      refine ⟨hw, hr, hj4, fun x hx' => ?_, Nat.two_pow_pos _, rfl, Nat.two_pow_pos _⟩
      rw [un _ (by omega) (by omega) (by omega) (by omega), (hx x hx').1]
      omega
    · obtain ⟨c1', c2', c3, c4, c5', c6, c7⟩ := c k2 (by omega)
      refine ⟨?_, ?_, ?_, fun x hx' => ?_, ?_, ?_, ?_⟩
      · rw [lo (16 + k2) (by omega) (by omega) (by omega) (by omega) (by omega)]; exact c1'
      · rw [lo (21 + k2) (by omega) (by omega) (by omega) (by omega) (by omega)]; exact c2'
      · rw [lo (26 + k2) (by omega) (by omega) (by omega) (by omega) (by omega)]; exact c3
      · rw [lo (26 + k2) (by omega) (by omega) (by omega) (by omega) (by omega)] at hx'
        rw [lo (31 + 4 * k2 + x) (by omega) (by omega) (by omega) (by omega) (by omega), w6]
        have := c4 x hx'
        omega
      · rw [lo (51 + k2) (by omega) (by omega) (by omega) (by omega) (by omega), w1, ← U1]; exact c5'
      · rw [lo (51 + k2) (by omega) (by omega) (by omega) (by omega) (by omega), lo (56 + k2) (by omega) (by omega) (by omega) (by omega) (by omega)]; exact c6
      · rw [lo (61 + k2) (by omega) (by omega) (by omega) (by omega) (by omega), w2]
        rw [U2] at c7
        omega
  · rw [w2] at h1
    rw [lo (51 + k2) (by omega) (by omega) (by omega) (by omega) (by omega), lo (56 + k2) (by omega) (by omega) (by omega) (by omega) (by omega), lo (61 + k2) (by omega) (by omega) (by omega) (by omega) (by omega)]
    exact d k2 (by omega) h2
  · rw [lo 4 (by omega) (by omega) (by omega) (by omega) (by omega)] at hp
    rw [lo (66 + p) (by omega) (by omega) (by omega) (by omega) (by omega), lo (72 + p) (by omega) (by omega) (by omega) (by omega) (by omega), w2, w6]
    have := ee p hp
    omega
  · rw [lo 3 (by omega) (by omega) (by omega) (by omega) (by omega)] at hk2
    rw [lo (78 + k2) (by omega) (by omega) (by omega) (by omega) (by omega), w6]
    have := ff k2 hk2
    omega
  · rw [w6] at he
    by_cases q : e < b
    · have ew := hS.ew (e := e) (by omega)
      have gg := g.2.2 e (by omega)
      rw [gg.1, gg.2]
      exact ⟨g.wfc ew.2 ew.1, Nat.le_trans ew.2 g.1⟩
    · obtain ⟨x, rfl⟩ : ∃ x, e = b + x := ⟨e - b, by omega⟩
      obtain ⟨z1, z2, z3, _⟩ := hx x (by omega)
      rw [un _ (by omega) (by omega) (by omega) (by omega), un _ (by omega) (by omega) (by omega) (by omega), w7, wc]
      exact ⟨z2, z3⟩
  · rw [w7, wc, w1]
    rw [Un 7 (by omega), Uc, U1] at hh
    exact hh
  · rw [w1, ← U1]; exact w01
  · rw [em]; exact w02
  · rw [i4 la (by omega), ie0, updA_ne _ _ (by omega), lo 0 (by omega) (by omega) (by omega) (by omega) (by omega)]; exact d0
  · rw [i4 la (by omega), ie0, updA_ne _ _ (by omega), lo 3 (by omega) (by omega) (by omega) (by omega) (by omega)]; exact d3
  · rw [i4 la (by omega), ie0, updA_ne _ _ (by omega), lo 4 (by omega) (by omega) (by omega) (by omega) (by omega)]; exact d4
  · rw [i4 la (by omega), ie0, updA_ne _ _ (by omega)]; exact d5
  · rw [em]; exact dm
  · rw [w1, ← U1] at hf
    rw [i4 _ (by omega), ix (la + 1) (by omega) (by omega) (by omega) (by omega) (by omega), lo (8 + f) (by omega) (by omega) (by omega) (by omega) (by omega)]
    exact dO f hf
  · rw [w2] at hk2
    rw [i4 (la + 3) (by omega), ie3, i4 (la + 6) (by omega), ie6, i4 (la + 8) (by omega), ix (la + 8) (by omega) (by omega) (by omega) (by omega) (by omega), i4 (la + 9) (by omega), ix (la + 9) (by omega) (by omega) (by omega) (by omega) (by omega), ef]
    by_cases q : k2 = k
    · subst q
      rw [updA_same, updA_same, w26, ek]
      refine ⟨rfl, rfl, fun x hx' => ?_⟩
      obtain ⟨z1, z2, z3, z4, z5⟩ := hx x hx'
      rw [un (31 + 4 * k2 + x) (by omega) (by omega) (by omega) (by omega), z1, un _ (by omega) (by omega) (by omega) (by omega), un _ (by omega) (by omega) (by omega) (by omega)]
      exact ⟨z4, z5⟩
    · have c3 := (c k2 (by omega)).2.2.1
      rw [updA_ne _ _ q, updA_ne _ _ q, lo (26 + k2) (by omega) (by omega) (by omega) (by omega) (by omega)]
      refine ⟨(dk k2 (by omega)).1, (dk k2 (by omega)).2.1, fun x hx' => ?_⟩
      have c4 := (c k2 (by omega)).2.2.2.1 x hx'
      rw [lo (31 + 4 * k2 + x) (by omega) (by omega) (by omega) (by omega) (by omega), (g.2.2 _ c4).1, (g.2.2 _ c4).2]
      exact (dk k2 (by omega)).2.2 x hx'
  · rw [i4 (la + 5) (by omega), ix (la + 5) (by omega) (by omega) (by omega) (by omega) (by omega), lo (61 + k2) (by omega) (by omega) (by omega) (by omega) (by omega)]
    exact ds k2 hk2
  · rw [lo 4 (by omega) (by omega) (by omega) (by omega) (by omega)] at hp
    have c4 := (ee p hp).2
    rw [i4 (la + 4) (by omega), ix (la + 4) (by omega) (by omega) (by omega) (by omega) (by omega), i4 (la + 8) (by omega), ix (la + 8) (by omega) (by omega) (by omega) (by omega) (by omega), i4 (la + 9) (by omega), ix (la + 9) (by omega) (by omega) (by omega) (by omega) (by omega), lo (66 + p) (by omega) (by omega) (by omega) (by omega) (by omega), lo (72 + p) (by omega) (by omega) (by omega) (by omega) (by omega), (g.2.2 _ c4).1, (g.2.2 _ c4).2]
    exact dp' p hp
  · exact g.slc (dq q hq) (by rw [i4 (la + 8) (by omega), ix (la + 8) (by omega) (by omega) (by omega) (by omega) (by omega)]) (by rw [i4 (la + 9) (by omega), ix (la + 9) (by omega) (by omega) (by omega) (by omega) (by omega)])
  · rw [i4 s (by omega), ies s (by omega) (by omega), q0, updA_ne _ _ h2, ic s (by omega) (by omega) (by omega)]
    exact dj j' h1 h2
  · rw [i4 s (by omega), ies s (by omega) (by omega), q0, updA_same, w2]
  · rw [w2] at hk2
    rw [i4 (s + 1) (by omega), ies (s + 1) (by omega) (by omega), q1, i4 (s + 2) (by omega), ies (s + 2) (by omega) (by omega), q2, i4 (s + 3) (by omega), ies (s + 3) (by omega) (by omega), q3, i4 (s + 4) (by omega), ies (s + 4) (by omega) (by omega), q4, i4 (s + 5) (by omega), ies (s + 5) (by omega) (by omega), q5, i4 (s + 6) (by omega), ies (s + 6) (by omega) (by omega), q6]
    by_cases q : k2 = k
    · subst q
      rw [updA_same, updA_same, updA_same, updA_same, updA_same, updA_same, w16, w21, lo (51 + k2) (by omega) (by omega) (by omega) (by omega) (by omega), lo (56 + k2) (by omega) (by omega) (by omega) (by omega) (by omega), dz.1, dz.2.1]
      exact ⟨rfl, rfl, rfl, rfl, rfl, rfl⟩
    · rw [updA_ne _ _ q, updA_ne _ _ q, updA_ne _ _ q, updA_ne _ _ q, updA_ne _ _ q, updA_ne _ _ q, ic (s + 1) (by omega) (by omega) (by omega), ic (s + 2) (by omega) (by omega) (by omega), ic (s + 3) (by omega) (by omega) (by omega), ic (s + 4) (by omega) (by omega) (by omega), ic (s + 5) (by omega) (by omega) (by omega), ic (s + 6) (by omega) (by omega) (by omega), lo (16 + k2) (by omega) (by omega) (by omega) (by omega) (by omega), lo (21 + k2) (by omega) (by omega) (by omega) (by omega) (by omega), lo (51 + k2) (by omega) (by omega) (by omega) (by omega) (by omega), lo (56 + k2) (by omega) (by omega) (by omega) (by omega) (by omega)]
      exact dst k2 (by omega)
  · rw [lo 1 (by omega) (by omega) (by omega) (by omega) (by omega)]; exact hv.1
  · rw [w2, ← h2, ← Un 2 (by omega), hv.2.1]
  · rw [lo 3 (by omega) (by omega) (by omega) (by omega) (by omega)]; exact hv.2.2.1
  · rw [lo 4 (by omega) (by omega) (by omega) (by omega) (by omega)]; exact hv.2.2.2.1
  · rw [lo (51 + k2) (by omega) (by omega) (by omega) (by omega) (by omega)]; exact hv.2.2.2.2.2.1 k2 hk2
  · rw [lo (61 + k2) (by omega) (by omega) (by omega) (by omega) (by omega)]; exact hv.2.2.2.2.2.2.1 k2 hk2
/-- the tokens of needs -/
def kN (vN : Nat) {d : Nat} (p : Nat → Tr d) : Nat → Nat → List (Nat × Nat)
  | _, 0 => []
  | j, q + 1 => (261, vN) :: (kA d (p j) ++ kN vN p (j + 1) q)
theorem kN_bad {vN : Nat} {p : Nat → Tr d0} : ∀ (q j : Nat), badE (hdk (kN vN p j q ++ ((59, 0) :: R'))) = false
  | 0, _ => by show badE 59 = false; decide
  | _ + 1, _ => by show badE 261 = false; decide
theorem LQ.pre {I1 : Nat → Nat → Int32} {T1 : Nat → Nat} {cls : Option (Int32 × Hp)} (h : LQ σ I1 L X n m la s T1 i R' v cls) (e : T1 0 = T 0) (f : FS la s I L I1 L) : LQ σ I L X n m la s T i R' v cls := by
  obtain ⟨I', L', T', lim', e1, e2, e3, e4, e5⟩ := h
  exact ⟨I', L', T', lim', e1, e2, e3, e4.trans e, f.tr e5⟩
theorem cloop_ok {w r vN : Nat} {p : Nat → Tr d0} (hla : isLa la) (hg : gpl σ = la) (hgs : gps σ = s) (hs : s = 268 ∨ s = 275) (hd : d0 ≤ 2) (hw : w ≤ 999) (hr : r ≤ 999) : ∀ (q j : Nat), j + q ≤ 4 → 0 < j + q → ∀ {I : Nat → Nat → Int32} {i : Nat} {T : Nat → Nat}, (∀ x, j ≤ x → x < j + q → okT (T 1) d0 (p x)) → CI I L X n m i la s T lim k b j (kN vN p j q ++ ((59, 0) :: R')) v →
    LQ σ I L X n m la s T (i + (kN vN p j q).length + 1) R' (v.1, v.2.1 + 1, v.2.2) (mX2_readCount_l103 282 (nI (97 + k)) (nI w) (nI r) (nI j) (nI j) (hk σ I L)) := by
  intro q
  induction q with
  | zero =>
    intro j hj h0 I i T _ h
    exact cend_ok hla hg hgs hs h hw hr (by omega)
  | succ q ih =>
    intro j hj h0 I i T hok h
    have h' : CI I L X n m i la s T lim k b j ((261, vN) :: (kA d0 (p j) ++ (kN vN p (j + 1) q ++ ((59, 0) :: R')))) v := by
      have e : kN vN p j (q + 1) ++ ((59, 0) :: R') = (261, vN) :: (kA d0 (p j) ++ (kN vN p (j + 1) q ++ ((59, 0) :: R'))) := by
        show (261, vN) :: ((kA d0 (p j) ++ kN vN p (j + 1) q) ++ ((59, 0) :: R')) = _
        rw [List.append_assoc]
      rw [← e]; exact h
    obtain ⟨I', T', c1, c2, c3, c4, c5⟩ := cneed_ok (σ := σ) (name := nI (97 + k)) (w := nI w) (r := nI r) hla hg hs hd (hok j (by omega) (by omega)) h' (kN_bad q (j + 1)) (by omega)
    rw [c1]
    have := (ih (j + 1) (by omega) (by omega) (fun x h1 h2 => by rw [c4]; exact hok x (by omega) (by omega)) c2).pre c3 c5
    have e : i + 1 + (kA d0 (p j)).length + (kN vN p (j + 1) q).length + 1 = i + (kN vN p j (q + 1)).length + 1 := by
      show _ = i + ((kA d0 (p j) ++ kN vN p (j + 1) q).length + 1) + 1
      rw [List.length_append]
      omega
    rw [e] at this
    exact this
/-- a line that tells a count -/
theorem l_count {w r q v1 v2 vN : Nat} {p : Nat → Tr d0} (hla : isLa la) (hg : gpl σ = la) (hgs : gps σ = s) (hs : s = 268 ∨ s = 275) (hd : d0 ≤ 2) (hw : w ≤ 999) (hr : r ≤ 999) (h5 : T 2 < 5) (hq1 : 1 ≤ q) (hq : q ≤ 4) (hok : ∀ x, x < q → okT (T 1) d0 (p x)) (h : SV I L X n m la s T lim i ((258, v0) :: (2, 97 + T 2) :: (259, v1) :: (3, w) :: (260, v2) :: (3, r) :: (kN vN p 0 q ++ ((59, 0) :: R')))) (hv : VW T lim v) :
    LQ σ I L X n m la s T (i + (7 + (kN vN p 0 q).length)) R' (v.1, v.2.1 + 1, v.2.2) (mX2_readCount 282 (hk σ I L)) := by
  have hla' : la = 112 ∨ la = 190 := hla
  obtain ⟨hp, hS, hD, hO⟩ := h
  have c2 : I la 2 = nI (T 2) := hp.2.2.1.2.2.2.1
  have p1 := hp.nx hla
  have b1 : T 1 ≤ 8 := hp.2.2.1.1
  obtain ⟨I2, x1, x2, xt, x3, x4⟩ := new_ok (σ := σ) (L := L) p1.1 (by rw [hg]; exact hla) (by rw [hg]; exact p1.2.2.1) (by omega) (fun f hf => by omega) (fun k hk' => by omega) p1.2.1
  have p2 := p1.go hla x2 xt x3
  obtain ⟨I3, y1, y2, yt, y3, y4⟩ := exp_ok (σ := σ) (L := L) p2.1 p2.2.1
  have y1 : mX2_expect 282 (259 : Int32) (hk σ I2 L) = some (1, hk σ I3 L) := y1
  have p3 := p2.go hla y2 yt y3
  obtain ⟨I4, d1, d2, dt, d3, d4⟩ := num_ok (σ := σ) (L := L) p3.1 (lo := 0) (hi := 999) p3.2.1 (by omega) hw (by omega)
  have d1 : mX2_number 282 (0 : Int32) (999 : Int32) (hk σ I3 L) = some (1, hk σ I4 L) := d1
  have p4 := p3.go hla d2 dt d3
  obtain ⟨I5, e1, e2, et, e3, e4⟩ := exp_ok (σ := σ) (L := L) p4.1 p4.2.1
  have e1 : mX2_expect 282 (260 : Int32) (hk σ I4 L) = some (1, hk σ I5 L) := e1
  have p5 := p4.go hla e2 et e3
  obtain ⟨I6, g1, g2, gt, g3, g4⟩ := num_ok (σ := σ) (L := L) p5.1 (lo := 0) (hi := 999) p5.2.1 (by omega) hr (by omega)
  have g1 : mX2_number 282 (0 : Int32) (999 : Int32) (hk σ I5 L) = some (1, hk σ I6 L) := g1
  have p6 := p5.go hla g2 gt g3
  have i6 : CF2 I I6 := CF2.up.tr (x3.tr (y3.tr (d3.tr (e3.tr g3))))
  have eT : updA T 6 (T 6) = T := by
    funext x
    rw [updA_at]
    split
    · rename_i e; rw [e]
    · rfl
  have ci : CI I6 L X n m (i + 1 + 1 + 1 + 1 + 1 + 1) la s T lim (T 2) (T 6) 0 (kN vN p 0 q ++ ((59, 0) :: R')) v := ⟨p6, ⟨rfl, by omega, rfl, by omega⟩, by rw [eT]; exact hS, by rw [eT]; exact hD.cf hla hs i6, fun x hx => by omega, hO, by rw [eT]; exact hv⟩
  have fin := (cloop_ok (w := w) (r := r) hla hg hgs hs hd hw hr q 0 (by omega) (by omega) (fun x _ h2 => hok x (by omega)) ci).pre rfl (i6.fs (L := L) (la := la) (s := s))
  have e : i + 1 + 1 + 1 + 1 + 1 + 1 + (kN vN p 0 q).length + 1 = i + (7 + (kN vN p 0 q).length) := by omega
  rw [e] at fin
  unfold mX2_readCount
  rw [if_pos s282, gDr, hg, gI_la hla, obind, c2, if_pos (show nI (T 2) < (5 : Int32) from nI_lt (b := 5) (by omega) (by omega)), gPI, obind, hp.1.2.2.2.2.2.1, sI_ok s282, obind, setI_hk, hpI_hk', nI_1, x1, b2s, if_neg (show ¬ (1 : Int32) = 0 by decide), gPI, obind, x4, y1, b2s, if_neg (show ¬ (1 : Int32) = 0 by decide), d1, b2s, if_neg (show ¬ (1 : Int32) = 0 by decide), gPI, obind, d4, e1, b2s, if_neg (show ¬ (1 : Int32) = 0 by decide), g1, b2s, if_neg (show ¬ (1 : Int32) = 0 by decide), gPI, obind, g4]
  exact fin
end H5
