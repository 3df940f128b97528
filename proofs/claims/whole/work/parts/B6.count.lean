section Count
variable {σ τ : Sg} {I I' J J' I1 I2 I3 Ja : Nat → Nat → Int32} {L L' M M' L1 L2 : Nat → Nat → Int64} {X : Nat → Nat} {n m i i2 la off t1 t2 fl pl dp h0 N kk lim s k b j : Nat} {W : Nat → List Nat} {T T' : Nat → Nat}
theorem SP.ext (h : SP T lim) (g : GR T T') (hk : T 2 ≤ 4) (lo : ∀ j, j < 84 → j ≠ 7 → (j < 31 + 4 * T 2 ∨ 35 + 4 * T 2 ≤ j) → T' j = T j) (hl : ∀ s, s < T' 7 → cT T' s < 100 → cT T' s < T 1) : SP T' lim ∧ may T' = may T ∧ fst0 T' = fst0 T := by
  obtain ⟨⟨a1, a2, a3, a4, a5, a6, a7⟩, b, c, d, ee, ff, gq, hh, w0, w01, w02⟩ := id h
  have lw : ∀ j, j < 31 → j ≠ 7 → T' j = T j := fun j h1 h2 => lo j (by omega) h2 (by omega)
  have hi : ∀ j, 51 ≤ j → j < 84 → T' j = T j := fun j h1 h2 => lo j h2 (by omega) (by omega)
  have em : may T' = may T := g.mayc h (lw 3 (by omega) (by omega)) (fun k hk' => hi _ (by omega) (by omega))
  have ef : fst0 T' = fst0 T := fst0_cg (lw 2 (by omega) (by omega)) (fun k hk' => hi _ (by omega) (by omega))
  refine ⟨⟨⟨?_, ?_, ?_, ?_, a5, ?_, ?_⟩, fun f hf => ?_, fun k2 hk2 => ?_, fun k2 h1 h2 => ?_, fun p hp => ?_, fun k2 hk2 => ?_, fun e he => ?_, ?_, w0, ?_, ?_⟩, em, ef⟩
  · rw [lw 1 (by omega) (by omega)]; exact a1
  · rw [lw 2 (by omega) (by omega)]; exact a2
  · rw [lw 3 (by omega) (by omega)]; exact a3
  · rw [lw 4 (by omega) (by omega)]; exact a4
  · rw [lw 5 (by omega) (by omega)]; exact a6
  · rw [lw 6 (by omega) (by omega), lw 3 (by omega) (by omega), lw 4 (by omega) (by omega), lw 2 (by omega) (by omega), ndT_cg (fun k2 h2 => lw _ (by omega) (by omega))]; exact a7
  · rw [lw 1 (by omega) (by omega)] at hf
    rw [lw (8 + f) (by omega) (by omega)]; exact b f hf
  · rw [lw 2 (by omega) (by omega)] at hk2
    obtain ⟨c1, c2, c3, c4, c5, c6, c7⟩ := c k2 hk2
    refine ⟨?_, ?_, ?_, fun i hi' => ?_, ?_, ?_, ?_⟩
    · rw [lw (16 + k2) (by omega) (by omega)]; exact c1
    · rw [lw (21 + k2) (by omega) (by omega)]; exact c2
    · rw [lw (26 + k2) (by omega) (by omega)]; exact c3
    · rw [lw (26 + k2) (by omega) (by omega)] at hi'
      rw [lo (31 + 4 * k2 + i) (by omega) (by omega) (by omega), lw 6 (by omega) (by omega)]
      exact c4 i hi'
    · rw [hi (51 + k2) (by omega) (by omega), lw 1 (by omega) (by omega)]; exact c5
    · rw [hi (51 + k2) (by omega) (by omega), hi (56 + k2) (by omega) (by omega)]; exact c6
    · rw [hi (61 + k2) (by omega) (by omega), lw 2 (by omega) (by omega)]; exact c7
  · rw [lw 2 (by omega) (by omega)] at h1
    rw [hi (51 + k2) (by omega) (by omega), hi (56 + k2) (by omega) (by omega), hi (61 + k2) (by omega) (by omega)]
    exact d k2 h1 h2
  · rw [lw 4 (by omega) (by omega)] at hp
    rw [hi (66 + p) (by omega) (by omega), hi (72 + p) (by omega) (by omega), lw 2 (by omega) (by omega), lw 6 (by omega) (by omega)]
    exact ee p hp
  · rw [lw 3 (by omega) (by omega)] at hk2
    rw [hi (78 + k2) (by omega) (by omega), lw 6 (by omega) (by omega)]
    exact ff k2 hk2
  · rw [lw 6 (by omega) (by omega)] at he
    rw [(g.2.2 e he).1, (g.2.2 e he).2]
    exact ⟨g.wfc (h.ew he).2 (h.ew he).1, Nat.le_trans (h.ew he).2 g.1⟩
  · rw [lw 1 (by omega) (by omega)]; exact hl
  · rw [lw 1 (by omega) (by omega)]; exact w01
  · rw [em]; exact w02
theorem SD.ext (hla : isLa la) (hs : s = 268 ∨ s = 275) (h : SD I L la s T lim) (hS : SP T lim) (g : GR T T') (hk : T 2 ≤ 4) (hj : j < 4) (lo : ∀ j, j < 84 → j ≠ 7 → (j < 31 + 4 * T 2 ∨ 35 + 4 * T 2 ≤ j) → T' j = T j)
    (em : may T' = may T) (ef : fst0 T' = fst0 T) (fx : ∀ x, x ≠ 282 → x ≠ la → x ≠ la + 7 → x ≠ la + 8 → x ≠ la + 9 → I' x = I x) (fk : ∀ k, k ≠ 13 → I' la k = I la k)
    (f8 : ∀ q, q ≠ 4 * T 2 + j → I' (la + 8) q = I (la + 8) q) (f9 : ∀ q, q ≠ 4 * T 2 + j → I' (la + 9) q = I (la + 9) q) (hq : sl I' la T' (4 * T 2 + j)) : SD I' L la s T' lim := by
  have hla' : la = 112 ∨ la = 190 := hla
  obtain ⟨⟨a1, a2, a3, a4, a5, a6, a7⟩, b, c, d, ee, ff, gq, hh, w0, w01, w02⟩ := id hS
  have lw : ∀ j, j < 31 → j ≠ 7 → T' j = T j := fun j h1 h2 => lo j (by omega) h2 (by omega)
  have hi : ∀ j, 51 ≤ j → j < 84 → T' j = T j := fun j h1 h2 => lo j h2 (by omega) (by omega)
  obtain ⟨⟨d0, d3, d4, d5, dm⟩, dO, dk, ds, dp', dq, ⟨dj, d2⟩, dst⟩ := h
  refine ⟨⟨?_, ?_, ?_, ?_, ?_⟩, fun f hf => ?_, fun k2 hk2 => ?_, fun k2 hk2 => ?_, fun p hp => ?_, fun q hq' => ?_, ⟨fun j h1 h2 => ?_, ?_⟩, fun k2 hk2 => ?_⟩
  · rw [fk 0 (by omega), lw 0 (by omega) (by omega)]; exact d0
  · rw [fk 3 (by omega), lw 3 (by omega) (by omega)]; exact d3
  · rw [fk 4 (by omega), lw 4 (by omega) (by omega)]; exact d4
  · rw [fk 5 (by omega)]; exact d5
  · rw [em]; exact dm
  · rw [lw 1 (by omega) (by omega)] at hf
    rw [fx (la + 1) (by omega) (by omega) (by omega) (by omega) (by omega), lw (8 + f) (by omega) (by omega)]; exact dO f hf
  · rw [lw 2 (by omega) (by omega)] at hk2
    have c3 := (c k2 hk2).2.2.1
    rw [fx (la + 3) (by omega) (by omega) (by omega) (by omega) (by omega), fx (la + 6) (by omega) (by omega) (by omega) (by omega) (by omega), lw (26 + k2) (by omega) (by omega), ef]
    refine ⟨(dk k2 hk2).1, (dk k2 hk2).2.1, fun i hi' => ?_⟩
    have c4 := (c k2 hk2).2.2.2.1 i hi'
    rw [lo (31 + 4 * k2 + i) (by omega) (by omega) (by omega), (g.2.2 _ c4).1, (g.2.2 _ c4).2, f8 _ (by omega), f9 _ (by omega)]
    exact (dk k2 hk2).2.2 i hi'
  · rw [fx (la + 5) (by omega) (by omega) (by omega) (by omega) (by omega), hi (61 + k2) (by omega) (by omega)]
    exact ds k2 hk2
  · rw [lw 4 (by omega) (by omega)] at hp
    have c4 := (ee p hp).2
    rw [fx (la + 4) (by omega) (by omega) (by omega) (by omega) (by omega), hi (66 + p) (by omega) (by omega), hi (72 + p) (by omega) (by omega), (g.2.2 _ c4).1, (g.2.2 _ c4).2, f8 _ (by omega), f9 _ (by omega)]
    exact dp' p hp
  · by_cases e : q = 4 * T 2 + j
    · rw [e]; exact hq
    · exact g.slc (dq q hq') (f8 q e) (f9 q e)
  · rw [fx s (by omega) (by omega) (by omega) (by omega) (by omega)]; exact dj j h1 h2
  · rw [fx s (by omega) (by omega) (by omega) (by omega) (by omega), lw 2 (by omega) (by omega)]; exact d2
  · rw [lw 2 (by omega) (by omega)] at hk2
    rw [fx (s + 1) (by omega) (by omega) (by omega) (by omega) (by omega), fx (s + 2) (by omega) (by omega) (by omega) (by omega) (by omega), fx (s + 3) (by omega) (by omega) (by omega) (by omega) (by omega), fx (s + 4) (by omega) (by omega) (by omega) (by omega) (by omega), fx (s + 5) (by omega) (by omega) (by omega) (by omega) (by omega), fx (s + 6) (by omega) (by omega) (by omega) (by omega) (by omega), lw (16 + k2) (by omega) (by omega), lw (21 + k2) (by omega) (by omega), hi (51 + k2) (by omega) (by omega), hi (56 + k2) (by omega) (by omega)]
    exact dst k2 hk2
/-- a COUNT, as far as its needs are read -/
def CI (I J : Nat → Nat → Int32) (L M : Nat → Nat → Int64) (X : Nat → Nat) (n m i la s : Nat) (W : Nat → List Nat) (T : Nat → Nat) (lim k b j : Nat) : Prop :=
  (∃ dp, PE I J M X n m i la 0 W (T 1) k T dp) ∧ (T 2 = k ∧ k ≤ 4 ∧ T 6 = b + j ∧ j ≤ 4) ∧ SP (updA T 6 b) lim ∧ SD I L la s (updA T 6 b) lim ∧
  (∀ x, x < j → T (31 + 4 * k + x) = b + x ∧ wfE (cT T) (T (84 + (b + x))) (T (117 + (b + x))) ∧ T (117 + (b + x)) ≤ T 7 ∧ I (la + 8) (4 * k + x) = nI (T (84 + (b + x))) ∧ I (la + 9) (4 * k + x) = nI (T (117 + (b + x)))) ∧ J 433 22 = bI (decide (lim ≠ 0)) ∧ SOk L ∧ W 13 = []
/-- the model's way out of a COUNT line -/
theorem c76_bad (h : MFl J fl pl) (a w r x : Int32) : mX12_readCount_l76 433 a w r x (hk τ J M) = some (hk τ J M) := by
  unfold mX12_readCount_l76
  refine lp_inr ?_
  show mX12_readCount_l76f 433 a w r x (hk τ J M) = _
  unfold mX12_readCount_l76f
  rw [isWord_bad (w := 17) h.ne, obind, if_pos (show bI false = 0 from rfl), isSign_bad h.ne, obind, must_bad h, obind, gMI, obind, if_neg h.ne, xts]
theorem need_room (h : CI I J L M X n m i la s W T lim k b j) : b ≤ 12 + 4 * k ∧ T 7 ≤ 480 ∧ T 7 ≤ i := by
  obtain ⟨⟨dp, hp⟩, ⟨h2, h4, h6, hj⟩, hS, _⟩ := h
  have t6 := hS.t6
  have e1 : updA T 6 b 6 = b := updA_same _ _ _
  have e2 : updA T 6 b 2 = k := by rw [updA_ne _ _ (by omega), h2]
  have := hp.1.le.2
  have := hp.2.2.2.2.2.2.1
  rw [e1, e2] at t6
  omega
/-- one need more -/
theorem cneed_ok {name w r : Int32} (hla : isLa la) (hg : gpl σ = la) (hs : s = 268 ∨ s = 275) (h : CI I J L M X n m i la s W T lim k b j) (hj : j < 4) (hc : ck X n (pz X n i) = 261) :
    (∃ I' J' M' i' T', mX2_readCount_l103 282 name w r (nI j) (nI j) (hk σ I L) = mX2_readCount_l103 282 name w r (nI (j + 1)) (nI (j + 1)) (hk σ I' L) ∧ mX12_readCount_l76 433 (nI k) w r (nI j) (hk τ J M) = mX12_readCount_l76 433 (nI k) w r (nI (j + 1)) (hk τ J' M') ∧ CI I' J' L M' X n m i' la s W T' lim k b (j + 1) ∧ T' 0 = T 0 ∧ i < i' ∧ FS la s I L I' L ∧ MFr J M J' M' ∧ M' 437 = M 437) ∨
    (∃ fl pl I' J' M', mX2_readCount_l103 282 name w r (nI j) (nI j) (hk σ I L) = some (0, hk σ I' L) ∧ mX12_readCount_l76 433 (nI k) w r (nI j) (hk τ J M) = some (hk τ J' M') ∧ CFl I' fl pl ∧ MFl J' fl pl ∧ FS la s I L I' L ∧ MFr J M J' M') := by
  have hla' : la = 112 ∨ la = 190 := hla
  obtain ⟨hb, h7, h7i⟩ := need_room h
  obtain ⟨⟨dp, hp⟩, ⟨h2, h4, h6, hj4⟩, hS, hD, hx, h22, hO, hW⟩ := h
  rcases exp_ok (σ := σ) (τ := τ) (L := L) hp.1 hp.2.1 (c := 261) (by omega) (by omega) with ⟨_, ⟨I1, v1, v2, v3, v4⟩, _⟩ | ⟨q, _⟩
  · have v1 : mX2_expect 282 (261 : Int32) (hk σ I L) = some (1, hk σ I1 L) := v1
    obtain ⟨u, w', e1, y2, y3⟩ := (room_ok (τ := τ) hp.2.1 (by omega) (a := j) (b := 4) (by omega) (by omega)).1 (by omega)
    have e1 : mX12_room 433 (nI j) (4 : Int32) (hk τ J M) = some (hk τ (rowUp J 433 u) (rowUp M 433 w')) := e1
    have p1 := hp.go hla v2 v3 y2 y3
    have c2 : I1 la 2 = nI k := p1.2.2.1.2.2.2.1 hW
    have iw : mX12_isWord 433 17 (hk τ J M) = some (bI true) := by
      have := isWord_ok (σ := τ) (w := 5) hp.2.1.2.1 hp.2.1.2.2 (by omega)
      rw [decide_eq_true (show ck X n (pz X n i) = 256 + 5 from hc)] at this
      exact this
    have clsS : ∀ {o : Option ((Int32 × Int32 × Hp) ⊕ (Int32 × Hp))}, mX2_readCount_b124 282 name w r (nI j) (nI j) (hk σ I L) = o → mX2_readCount_l103f 282 name w r (nI j) (nI j) (hk σ I L) = o := fun {o} h => by
      unfold mX2_readCount_l103f
      rw [if_pos (show nI j < (4 : Int32) from nI_lt (b := 4) hj (by omega)), h, nextKind_ok hp.1, obind, hc, if_pos (show nI 261 = (261 : Int32) from rfl)]
      by_cases q : nI j = 0
      · rw [if_pos q]
      · rw [if_neg q]
    rcases into_ok (σ := σ) (τ := τ) (L := L) hla hg p1 (by omega) (s := 4 * k + j) (by omega) with ⟨I3, J3, M3, i3, T3, c1, d2, p4, l2, l3, a6, a84, a117, a2', r2, x8, x9, f2, g2, k2⟩ | ⟨fl, pl, I3, J3, M3, c1, d2, ⟨c3, c4, c5, c6⟩, f2, g2⟩
    · have rge := r2.1.1
      obtain ⟨T', hT⟩ : ∃ T', T' = updA T3 (31 + 4 * k + j) (b + j) := ⟨_, rfl⟩
      have s1 := p4.set (k := 31 + 4 * k + j) (b + j) (by omega) (by omega) (by omega) (by omega)
      rw [← hT] at s1
      have un : ∀ x, x ≠ 31 + 4 * k + j → T' x = T3 x := fun x hx => by rw [hT, updA_ne _ _ hx]
      have t3 : ∀ x, x < 84 → x ≠ 7 → x ≠ 6 → T3 x = T x := fun x h1 h2 h3 => a2' x h2 h3 (by omega) (by omega) (by omega)
      have w1 : T' 1 = T 1 := by rw [un 1 (by omega), t3 1 (by omega) (by omega) (by omega)]
      have w2 : T' 2 = k := by rw [un 2 (by omega), t3 2 (by omega) (by omega) (by omega), h2]
      have w6 : T' 6 = b + (j + 1) := by rw [un 6 (by omega), a6, h6, Nat.add_assoc]
      have w7 : T' 7 = T3 7 := un 7 (by omega)
      have wc : cT T' = cT T3 := by funext x; exact un _ (by omega)
      have wU : cT (updA T 6 b) = cT T := by funext x; exact updA_ne _ _ (by omega)
      have wU' : cT (updA T' 6 b) = cT T3 := by rw [← wc]; funext x; exact updA_ne _ _ (by omega)
      have U6 : updA T 6 b 6 = b := updA_same _ _ _
      have U7 : updA T 6 b 7 = T 7 := updA_ne _ _ (by omega)
      have U7' : updA T' 6 b 7 = T3 7 := by rw [updA_ne _ _ (by omega), w7]
      have U1 : updA T 6 b 1 = T 1 := updA_ne _ _ (by omega)
      have U2 : updA T 6 b 2 = k := by rw [updA_ne _ _ (by omega), h2]
      have g0 : ∀ e, e < b + j → T' (84 + e) = T (84 + e) ∧ T' (117 + e) = T (117 + e) := fun e he => ⟨by rw [un _ (by omega)]; exact a2' _ (by omega) (by omega) (by omega) (by omega) (by omega), by rw [un _ (by omega)]; exact a2' _ (by omega) (by omega) (by omega) (by omega) (by omega)⟩
      have ctl : ∀ s, s < T 7 → cT T3 s = cT T s := fun s hs' => a2' (150 + s) (by omega) (by omega) (by omega) (by omega) (by omega)
      have gT : GR T T' := ⟨by rw [w7]; exact rge, fun x h1 h2 => by rw [un x (by omega)]; exact a2' x (by omega) (by omega) (by omega) (by omega) h2, fun e he => g0 e (by omega)⟩
      have g : GR (updA T 6 b) (updA T' 6 b) := ⟨by rw [U7, U7']; exact rge, fun x h1 h2 => by
          rw [U7] at h2
          rw [updA_ne _ _ (by omega), updA_ne _ _ (by omega)]
          exact gT.2.1 x h1 h2, fun e he => by
          rw [U6] at he
          rw [updA_ne _ _ (by omega), updA_ne _ _ (by omega), updA_ne _ _ (by omega), updA_ne _ _ (by omega)]
          exact g0 e (by omega)⟩
      have lo : ∀ x, x < 84 → x ≠ 7 → (x < 31 + 4 * updA T 6 b 2 ∨ 35 + 4 * updA T 6 b 2 ≤ x) → updA T' 6 b x = updA T 6 b x := fun x h1 h2 h3 => by
        rw [U2] at h3
        rw [updA_at, updA_at]
        by_cases e : x = 6
        · rw [if_pos e, if_pos e]
        · rw [if_neg e, if_neg e, un x (by omega), t3 x h1 h2 e]
      obtain ⟨nS, em, ef⟩ := hS.ext g (by rw [U2]; exact h4) lo (fun s hs' => by
        rw [U7'] at hs'
        rw [wU', U1]
        by_cases q : s < T 7
        · rw [ctl s q]
          have := hS.2.2.2.2.2.2.2.1 s (by rw [U7]; exact q)
          rw [wU, U1] at this
          exact this
        · exact r2.2 s (by omega) hs')
      have ii3 : ∀ x, x ≠ 282 → x ≠ la → x ≠ la + 7 → x ≠ la + 8 → x ≠ la + 9 → I3 x = I x := fun x a b c d e => by rw [f2 x a b c d e, v3 x a]
      have x8' : I3 (la + 8) = updA (I (la + 8)) (4 * k + j) (nI (T 7)) := by rw [x8, v3 _ (by omega)]
      have x9' : I3 (la + 9) = updA (I (la + 9)) (4 * k + j) (nI (T3 7)) := by rw [x9, v3 _ (by omega)]
      have nD : SD I3 L la s (updA T' 6 b) lim := by
        refine hD.ext (j := j) hla hs hS g (by rw [U2]; exact h4) hj lo em ef ii3 (fun x hx => by rw [g2 x hx, v3 _ (by omega)]) (fun q hq => ?_) (fun q hq => ?_) ?_
        · rw [U2] at hq; rw [x8', updA_ne _ _ hq]
        · rw [U2] at hq; rw [x9', updA_ne _ _ hq]
        · rw [U2]
          exact ⟨T 7, T3 7, by rw [x8', updA_same], by rw [x9', updA_same], rge, by rw [U7']; exact Nat.le_refl _, by rw [wU']; exact r2.wf.2.1⟩
      refine Or.inl ⟨I3, _, M3, i3, T', ?_, ?_, ⟨⟨0, by rw [w1]; exact s1⟩, ⟨w2, h4, w6, by omega⟩, nS, nD, fun x hx' => ?_, ?_, hO, hW⟩, by rw [un 0 (by omega), t3 0 (by omega) (by omega) (by omega)], by omega, ⟨fun x a b c d => ii3 x a (by omega) (by omega) (by omega) (by omega), fun _ _ _ _ => rfl⟩, (y3.1.tr k2.1).tr (MX.u435 _).1, by rw [k2.2.1, y3.2.2.1]⟩
      · unfold mX2_readCount_l103
        refine lp_inl ?_
        show mX2_readCount_l103f 282 name w r (nI j) (nI j) (hk σ I L) = _
        refine clsS ?_
        unfold mX2_readCount_b124
        rw [v1, b2s, if_neg (show ¬ (1 : Int32) = 0 by decide), gDr, hg, gI_la hla, obind, c2, needSlot_nI, obind, c1, b2s, if_neg (show ¬ (1 : Int32) = 0 by decide), nI_1]
      · unfold mX12_readCount_l76
        refine lp_inl ?_
        show mX12_readCount_l76f 433 (nI k) w r (nI j) (hk τ J M) = _
        unfold mX12_readCount_l76f mX12_readCount_b124
        rw [iw, obind, if_neg (show ¬ bI true = 0 by decide), e1, obind, d2, b2s, gMI, obind, if_pos p4.2.1.2.2, gM 1, RF_433_1, show (31 : Int32) = nI 31 from rfl, show (4 : Int32) = nI 4 from rfl, pk_mul, nI_add, nI_add, h6, st435 _ (by omega), obind, nI_1]
      · by_cases q : x = j
        · subst q
          have e84 : T' (84 + (b + x)) = T 7 := by rw [un _ (by omega), ← h6, a84]
          have e117 : T' (117 + (b + x)) = T3 7 := by rw [un _ (by omega), ← h6, a117]
          rw [e84, e117, w7, wc, x8', x9', updA_same, updA_same]
          exact ⟨by rw [hT, updA_same], r2.wf, Nat.le_refl _, rfl, rfl⟩
        · obtain ⟨z1, z2, z3, z4, z5⟩ := hx x (by omega)
          rw [(g0 (b + x) (by omega)).1, (g0 (b + x) (by omega)).2, w7, wc, x8', x9', updA_ne _ _ (by omega), updA_ne _ _ (by omega)]
          refine ⟨by rw [un _ (by omega), t3 _ (by omega) (by omega) (by omega)]; exact z1, ?_, by omega, z4, z5⟩
          have := gT.wfc z3 z2
          rw [wc] at this
          exact this
      · rw [rowUp_ne _ _ (by omega), k2.2.2, y3.2.2.2.2, h22]
    · refine Or.inr ⟨fl, pl, I3, J3, M3, ?_, ?_, c3, c4, ⟨fun x a b c d => by rw [f2 x a (by omega) (by omega) (by omega) (by omega), v3 x a], fun _ _ _ _ => rfl⟩, y3.1.tr c5⟩
      · unfold mX2_readCount_l103
        refine lp_inr ?_
        show mX2_readCount_l103f 282 name w r (nI j) (nI j) (hk σ I L) = _
        refine clsS ?_
        unfold mX2_readCount_b124
        rw [v1, b2s, if_neg (show ¬ (1 : Int32) = 0 by decide), gDr, hg, gI_la hla, obind, c2, needSlot_nI, obind, c1, b2s, if_pos rfl, xts]
      · have st : mX12_readCount_l76f 433 (nI k) w r (nI j) (hk τ J M) = some (.inl (nI j, hk τ J3 M3)) := by
          unfold mX12_readCount_l76f mX12_readCount_b124
          rw [iw, obind, if_neg (show ¬ bI true = 0 by decide), e1, obind, d2, b2s, gMI, obind, if_neg c4.ne]
        have : mX12_readCount_l76 433 (nI k) w r (nI j) (hk τ J M) = mX12_readCount_l76 433 (nI k) w r (nI j) (hk τ J3 M3) := lp_inl st
        rw [this, c76_bad c4]
  · exact absurd hc q
end Count
