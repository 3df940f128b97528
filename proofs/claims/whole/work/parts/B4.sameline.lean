section SameLine
variable {σ τ : Sg} {I I' J J' I1 I2 I3 Ja : Nat → Nat → Int32} {L L' M M' L1 L2 : Nat → Nat → Int64} {X : Nat → Nat} {n m i i2 la off t1 t2 fl pl dp h0 N kk lim s : Nat} {W : Nat → List Nat} {T T' : Nat → Nat}
theorem SP.kp (h : SP T lim) (tn : ∀ j, j < 51 ∨ 66 ≤ j → T' j = T j) (c' : ∀ k, k < T 2 → T' (51 + k) < 2 ^ T 1 ∧ T' (56 + k) &&& T' (51 + k) = T' (56 + k) ∧ T' (61 + k) < 2 ^ T 2) (d' : ∀ k, T 2 ≤ k → k < 5 → T' (51 + k) = 0 ∧ T' (56 + k) = 0 ∧ T' (61 + k) = 0) : SP T' lim ∧ GR T T' ∧ may T' = may T := by
  have g : GR T T' := ⟨by rw [tn 7 (by omega)]; exact Nat.le_refl _, fun j h1 h2 => tn j (by omega), fun e he => ⟨tn _ (by omega), tn _ (by omega)⟩⟩
  have em : may T' = may T := g.mayc h (tn 3 (by omega)) (fun k' _ => tn _ (by omega))
  obtain ⟨⟨a1, a2, a3, a4, a5, a6, a7⟩, b, c, d, ee, ff, gq, hh, w0, w01, w02⟩ := id h
  refine ⟨⟨⟨?_, ?_, ?_, ?_, a5, ?_, ?_⟩, fun f hf => ?_, fun k2 hk2 => ?_, fun k2 h1 h2 => ?_, fun p hp => ?_, fun k2 hk2 => ?_, fun e he => ?_, fun s hs' => ?_, w0, ?_, ?_⟩, g, em⟩
  · rw [tn 1 (by omega)]; exact a1
  · rw [tn 2 (by omega)]; exact a2
  · rw [tn 3 (by omega)]; exact a3
  · rw [tn 4 (by omega)]; exact a4
  · rw [tn 5 (by omega)]; exact a6
  · rw [tn 6 (by omega), tn 3 (by omega), tn 4 (by omega), tn 2 (by omega), ndT_cg (fun k2 h2 => tn _ (by omega))]; exact a7
  · rw [tn 1 (by omega)] at hf
    rw [tn (8 + f) (by omega)]; exact b f hf
  · rw [tn 2 (by omega)] at hk2
    obtain ⟨c1, c2, c3, c4, c5', c6', c7⟩ := c k2 hk2
    obtain ⟨x1, x2, x3⟩ := c' k2 hk2
    refine ⟨?_, ?_, ?_, fun i hi' => ?_, by rw [tn 1 (by omega)]; exact x1, x2, by rw [tn 2 (by omega)]; exact x3⟩
    · rw [tn (16 + k2) (by omega)]; exact c1
    · rw [tn (21 + k2) (by omega)]; exact c2
    · rw [tn (26 + k2) (by omega)]; exact c3
    · rw [tn (26 + k2) (by omega)] at hi'
      rw [tn (31 + 4 * k2 + i) (by omega), tn 6 (by omega)]
      exact c4 i hi'
  · rw [tn 2 (by omega)] at h1
    exact d' k2 h1 h2
  · rw [tn 4 (by omega)] at hp
    rw [tn (66 + p) (by omega), tn (72 + p) (by omega), tn 2 (by omega), tn 6 (by omega)]
    exact ee p hp
  · rw [tn 3 (by omega)] at hk2
    rw [tn (78 + k2) (by omega), tn 6 (by omega)]
    exact ff k2 hk2
  · rw [tn 6 (by omega)] at he
    rw [(g.2.2 e he).1, (g.2.2 e he).2, tn 7 (by omega)]
    exact ⟨g.wfc (h.ew he).2 (h.ew he).1, (h.ew he).2⟩
  · rw [tn 7 (by omega)] at hs'
    rw [g.ct hs', tn 1 (by omega)]
    exact hh s hs'
  · rw [tn 1 (by omega)]; exact w01
  · rw [em]; exact w02
theorem s42_bad (h : MFl J fl pl) (a b : Int32) : mX12_readSame_b42 433 a b (hk τ J M) = some (hk τ J M) := by
  unfold mX12_readSame_b42
  rw [passes_bad h, obind, isSign_bad h.ne, obind, must_bad h, obind, gMI, obind, if_neg h.ne]
theorem s37_bad (h : MFl J fl pl) (a b : Int32) : mX12_readSame_b37 433 a b (hk τ J M) = some (hk τ J M) := by
  unfold mX12_readSame_b37
  rw [wrong_bad h, obind, s42_bad h]
theorem same37 (h : PMk J M X n i) (hc2 : ck X n (pz X n i) = 2) (a b : Int32) : ∃ J', mX12_readSame_b37 433 a b (hk τ J M) = some (hk τ J' M) ∧ MFl J' 3 (pz X n i) ∧ MF2 J M J' M := by
  obtain ⟨u, w1', w2', w3⟩ := wrong_ok (σ := τ) h (f := 3) (by omega) (by omega)
  have w1' : mX12_wrong 433 (3 : Int32) (hk τ J M) = some (hk τ (rowUp J 433 u) M) := w1'
  rw [if_neg (by omega)] at w2'
  refine ⟨_, ?_, w2', w3⟩
  unfold mX12_readSame_b37
  rw [w1', obind, s42_bad w2']
theorem same61 (h : PCk I X n m (i + 1)) (hi : i ≤ m) : ∃ I', mX2_readSame_b61 282 (hk σ I L) = some (0, hk σ I' L) ∧ CFl I' 3 (pz X n i) ∧ CF2 I I' := by
  have pb : PCk (rowUp I 282 (updA (I 282) 5 (nI i))) X n m i := h.up (updA_same _ _ _) hi
  obtain ⟨I3, e3, c3', d3⟩ := fail_b2 (σ := σ) (L := L) pb (f := 3) (by omega) (by omega)
  have e1i : nI (i + 1) - 1 = nI i := by rw [show (1 : Int32) = nI 1 from rfl, nI_sub (by omega), Nat.add_sub_cancel]
  refine ⟨I3, ?_, c3', CF2.up.tr d3⟩
  unfold mX2_readSame_b61
  rw [gPI, obind, h.2.2.2.2.2.1, sI_ok s282, obind, setI_hk, hpI_hk', e1i]
  exact e3
/-- a line that tells two COUNTS the same -/
theorem l_same (hla : isLa la) (hg : gpl σ = la) (hs : s = 268 ∨ s = 275) (h : SV I J L M X n m i la s W T lim) (hc0 : ck X n (pz X n i) ≠ 0) : LQ σ τ I J L M X n m i la s T (mX2_readSame 282 (hk σ I L)) (mX12_readSame 433 (hk τ J M)) := by
  have hla' : la = 112 ∨ la = 190 := hla
  obtain ⟨⟨dp, hp⟩, hS, hD, h22, hO, hW⟩ := h
  obtain ⟨⟨a1, a2, a3, a4, a5, a6, a7⟩, b, c, d, ee, ff, gq, hh, w0, w01, w02⟩ := id hS
  have p32 : (2 : Nat) ^ T 2 ≤ 2 ^ 5 := Nat.pow_le_pow_right (by omega) a2
  obtain ⟨u, w, e1, y2, y3⟩ := PMk.nx (σ := τ) hp.2.1
  have p1 := hp.nx hla hc0 y2 y3
  unfold mX2_readSame mX12_readSame
  rw [if_pos s282, if_pos s433, gPI, obind, hp.1.2.2.2.2.2.1, sI_ok s282, obind, setI_hk, hpI_hk', nI_1, e1, obind]
  rcases count_ok (σ := σ) (τ := τ) (L := L) hW p1.1 p1.2.1 (by rw [hg]; exact hla) (by rw [hg]; exact p1.2.2.1) p1.2.2.2.1 with ⟨x, hx, _, ⟨I2, x1, x2, x3, x4⟩, b0⟩ | ⟨fl, ⟨I2, x1, x2, x3⟩, J2, b1, b2', b3⟩
  · obtain ⟨J2, M2, b1, b2', b3⟩ := known_of (τ := τ) p1.2.1 b0
    have p2 := p1.go hla x2 x3 b2' b3
    have i2 : CF2 I I2 := CF2.up.tr x3
    rw [x1, b2s, if_neg (show ¬ (1 : Int32) = 0 by decide), gPI, obind, x4, b1, b2s]
    have cx := (c x hx).2.2.2.2.2.2
    rcases count_ok (σ := σ) (τ := τ) (L := L) hW p2.1 p2.2.1 (by rw [hg]; exact hla) (by rw [hg]; exact p2.2.2.1) p2.2.2.2.1 with ⟨y, hy, hcy, ⟨I3, v1, v2, v3, v4⟩, g0⟩ | ⟨fl, ⟨I3, v1, v2, v3⟩, J3, g1, g2, g3⟩
    · have i3 : CF2 I I3 := i2.tr v3
      have cy := (c y hy).2.2.2.2.2.2
      rw [v1, b2s, if_neg (show ¬ (1 : Int32) = 0 by decide), gPI, obind, v4, g0, b2s, c_eqd (by omega) (by omega), c_eqd (by omega) (by omega)]
      have bad : ∃ I5 J5, mX2_readSame_b61 282 (hk σ I3 L) = some (0, hk σ I5 L) ∧ mX12_readSame_b37 433 (nI x) (nI y) (hk τ J2 M2) = some (hk τ J5 M2) ∧ LQ σ τ I J L M X n m i la s T (some (0, hk σ I5 L)) (some (hk τ J5 M2)) := by
        obtain ⟨I5, e5, c5, d5⟩ := same61 (σ := σ) (L := L) v2 p2.1.2.2.2.2.2.2
        obtain ⟨J5, g5, m5, f5⟩ := same37 (τ := τ) p2.2.1 hcy (nI x) (nI y)
        exact ⟨I5, J5, e5, g5, Or.inr ⟨3, _, I5, J5, L, M2, rfl, rfl, c5, m5, (i3.tr d5).fs, y3.1.tr (b3.1.tr f5.1)⟩⟩
      by_cases q : x = y
      · obtain ⟨I5, J5, z1, z2, z3⟩ := bad
        rw [if_pos q, if_pos q, z1, z2]
        exact z3
      · rw [if_neg q, if_neg q, gDr, hg, gR_la hla, obind, RF_la_10 σ hla, at_r (SH_la5 hla) (by omega) (by omega), obind, i3 _ (by omega), hD.2.2.2.1 x (by omega), has_nI (by omega) (by omega), obind, gM 1, RF_433_1, show (61 : Int32) = nI 61 from rfl, nI_add, ld435 p2.2.2.2.2.1 (by omega), obind, mhas_nI (by omega) (by omega), obind, bI_if0, bI_if0]
        by_cases qb : (T (61 + x)).testBit y = true
        · obtain ⟨I5, J5, z1, z2, z3⟩ := bad
          rw [qb, if_neg nTF, if_neg nTF, z1, z2]
          exact z3
        · have qf : (T (61 + x)).testBit y = false := by simpa using qb
          obtain ⟨I4, hI4⟩ : ∃ I4, I4 = rowUp I3 (la + 5) (updA (updA (I (la + 5)) x (nI (T (61 + x) ||| 2 ^ y))) y (nI (T (61 + y) ||| 2 ^ x))) := ⟨_, rfl⟩
          have f4 : ∀ x, x ≠ 282 → x ≠ la + 5 → I4 x = I x := fun x a b => by rw [hI4, rowUp_ne _ _ b, i3 x a]
          obtain ⟨r, un, hr⟩ := unite_ok (σ := σ) (I := I4) (L := L) (F := fst0 T) (a := fst0 T x) (b := fst0 T y) hla (by rw [f4 la (by omega) (by omega)]; exact (show I la 2 = nI (T 2) from hp.2.2.1.2.2.2.1 hW)) a2 (fun k hk' => ⟨by rw [f4 (la + 6) (by omega) (by omega)]; exact (hD.2.2.1 k hk').2.1, fst0_le8 T (by omega)⟩) (fst0_le8 T (by omega)) (fst0_le8 T (by omega))
          have pre : ∀ {α : Type} (K : Hp → Option α), ((gR 2 3 282 (hk σ I3 L)).bind fun v19 => (gR 1 10 v19 (hk σ I3 L)).bind fun v20 => (gR 2 3 282 (hk σ I3 L)).bind fun v21 => (gR 1 10 v21 (hk σ I3 L)).bind fun v22 => (mX11_at v22 (nI x) (hk σ I3 L)).bind fun v23 => (mX11_put v20 (nI x) (v23 ||| ((1 : Int32) <<< (nI y &&& 31))) (hk σ I3 L)).bind fun h26 => (gR 2 3 282 h26).bind fun v27 => (gR 1 10 v27 h26).bind fun v28 => (gR 2 3 282 h26).bind fun v29 => (gR 1 10 v29 h26).bind fun v30 => (mX11_at v30 (nI y) h26).bind fun v31 => (mX11_put v28 (nI y) (v31 ||| ((1 : Int32) <<< (nI x &&& 31))) h26).bind fun h34 => K h34) = K (hk σ I4 L) := fun K => by
            rw [gDr, hg, gR_la hla, obind, RF_la_10 σ hla, gDr, hg, gR_la hla, obind, RF_la_10 σ hla, at_r (SH_la5 hla) (by omega) (by omega), obind, i3 _ (by omega), hD.2.2.2.1 x (by omega), shl1 (by omega), nx_or, put_nI (n := 5) (by rw [hpS_hk]; exact SH_la5 hla) (by omega) (by omega), obind, setI_hk, hpI_hk', gDr, hg, gR_la hla, obind, RF_la_10 σ hla, gDr, hg, gR_la hla, obind, RF_la_10 σ hla, at_r (SH_la5 hla) (by omega) (by omega), obind, rowUp_same, updA_ne _ _ (Ne.symm q), i3 _ (by omega), hD.2.2.2.1 y (by omega), shl1 (by omega), nx_or, put_nI (n := 5) (by rw [hpS_hk]; exact SH_la5 hla) (by omega) (by omega), obind, setI_hk, hpI_hk', rowUp_same, rowUp_two, ← hI4]
          obtain ⟨u5, w5, e5, y5, z5⟩ := PMk.ps (σ := τ) p2.2.1
          have p3 := p2.go hla v2 v3 y5 z5
          have p4 : PE (rowUp I4 (la + 6) r) (rowUp J2 433 u5) (rowUp M2 433 w5) X n m (i + 1 + 1 + 1) la 0 W (T 1) (T 2) T dp := by
            rw [hI4]
            exact (p3.irow (x := la + 5) _ (by omega) (by omega) (by omega) (by omega) (by omega)).irow (x := la + 6) r (by omega) (by omega) (by omega) (by omega) (by omega)
          rw [qf, if_pos rfl, if_pos rfl, pre, gDr, hg, gDr, hg, gR_la hla, obind, RF_la_11 σ hla, at_r (SH_la6 hla) (by omega) (by omega), obind, f4 _ (by omega) (by omega), (hD.2.2.1 x hx).2.1, gDr, hg, gR_la hla, obind, RF_la_11 σ hla, at_r (SH_la6 hla) (by omega) (by omega), obind, f4 _ (by omega) (by omega), (hD.2.2.1 y hy).2.1, un, obind]
          unfold mX12_readSame_b42
          rw [e5, obind, show (59 : Int32) = nI 59 from rfl, isSign_ok p4.2.1.2.1 p4.2.1.2.2 (by decide), obind]
          rcases exp_ok (σ := σ) (τ := τ) (L := L) p4.1 p4.2.1 (c := 59) (by omega) (by omega) with ⟨_, ⟨I6, k1, k2, k3, k4⟩, J6, M6, z1, z2, z3⟩ | ⟨_, fl, pl, ⟨I6, k1, k2, k3⟩, J6, M6, z1, z2, z3⟩
          · have p5 := p4.go hla k2 k3 z2 z3
            obtain ⟨T', hT⟩ : ∃ T', T' = updA (updA T (61 + x) (T (61 + x) ||| 2 ^ y)) (61 + y) (T (61 + y) ||| 2 ^ x) := ⟨_, rfl⟩
            have q1 := p5.set (k := 61 + x) (T (61 + x) ||| 2 ^ y) (by omega) (by omega) (by omega) (by omega)
            have q2 := q1.set (k := 61 + y) (T (61 + y) ||| 2 ^ x) (by omega) (by omega) (by omega) (by omega)
            rw [← hT] at q2
            have tn : ∀ j, j ≠ 61 + x → j ≠ 61 + y → T' j = T j := fun j a b => by rw [hT, updA_ne _ _ b, updA_ne _ _ a]
            have t61 : ∀ k, T' (61 + k) = if k = y then T (61 + y) ||| 2 ^ x else if k = x then T (61 + x) ||| 2 ^ y else T (61 + k) := fun k => by
              rw [hT, updA_at, updA_at]
              by_cases e : k = y
              · rw [if_pos (by omega), if_pos e]
              · rw [if_neg (by omega), if_neg e]
                by_cases e2 : k = x
                · rw [if_pos (by omega), if_pos e2]
                · rw [if_neg (by omega), if_neg e2]
            have px : (2 : Nat) ^ x < 2 ^ T 2 := Nat.pow_lt_pow_right (by omega) (by omega)
            have py : (2 : Nat) ^ y < 2 ^ T 2 := Nat.pow_lt_pow_right (by omega) (by omega)
            have l1 : T (61 + x) ||| 2 ^ y < 2 ^ T 2 := Nat.or_lt_two_pow cx py
            have l2 : T (61 + y) ||| 2 ^ x < 2 ^ T 2 := Nat.or_lt_two_pow cy px
            obtain ⟨nS, g, em⟩ := hS.kp (T' := T') (fun j hj => tn j (by omega) (by omega)) (fun k hk' => ⟨by rw [tn (51 + k) (by omega) (by omega)]; exact (c k hk').2.2.2.2.1, by rw [tn (51 + k) (by omega) (by omega), tn (56 + k) (by omega) (by omega)]; exact (c k hk').2.2.2.2.2.1, by
              rw [t61]
              split
              · exact l2
              · split
                · exact l1
                · exact (c k hk').2.2.2.2.2.2⟩) (fun k h1 h2 => by rw [tn (51 + k) (by omega) (by omega), tn (56 + k) (by omega) (by omega), tn (61 + k) (by omega) (by omega)]; exact d k h1 h2)
            have fx : ∀ x, x ≠ 282 → x ≠ la + 5 → x ≠ la + 6 → I6 x = I x := fun x a b c => by rw [k3 x a, rowUp_ne _ _ c, f4 x a b]
            have f5 : I6 (la + 5) = updA (updA (I (la + 5)) x (nI (T (61 + x) ||| 2 ^ y))) y (nI (T (61 + y) ||| 2 ^ x)) := by rw [k3 _ (by omega), rowUp_ne _ _ (by omega), hI4, rowUp_same]
            have f6 : I6 (la + 6) = r := by rw [k3 _ (by omega), rowUp_same]
            obtain ⟨⟨d0, d3, d4, d5, dm⟩, dO, dk, ds, dp', dq, ⟨dj, d2⟩, dst⟩ := hD
            refine Or.inl ⟨I6, _, L, M6, _, W, T', lim, by rw [k1, b2s]; rfl, ?_, ⟨⟨dp, by rw [tn 1 (by omega) (by omega), tn 2 (by omega) (by omega)]; exact q2⟩, nS, ⟨⟨?_, ?_, ?_, ?_, ?_⟩, fun f hf => ?_, fun k2 hk2 => ?_, fun k2 hk2 => ?_, fun p hp => ?_, fun q hq => ?_, ⟨fun j h1 h2 => ?_, ?_⟩, fun k2 hk2 => ?_⟩, ?_, hO, hW⟩, tn 0 (by omega) (by omega), by omega, ⟨fun x a b c d => fx x a (by omega) (by omega), fun _ _ _ _ => rfl⟩, y3.1.tr (b3.1.tr ((z5.1.tr z3.1).tr ((MX.u435 _).1.tr (MX.u435 _).1)))⟩
            · rw [z1, obind, gMI, obind, if_pos p5.2.1.2.2, gM 1, RF_433_1, show (61 : Int32) = nI 61 from rfl, nI_add, ld435 p5.2.2.2.2.1 (by omega), obind, shl1 (by omega), nx_or, st435 _ (by omega), obind, gM 1, RF_433_1, nI_add, ld435 q1.2.2.2.2.1 (by omega), obind, updA_ne _ _ (by omega), shl1 (by omega), nx_or, st435 _ (by omega), obind]
            · rw [fx la (by omega) (by omega) (by omega), tn 0 (by omega) (by omega)]; exact d0
            · rw [fx la (by omega) (by omega) (by omega), tn 3 (by omega) (by omega)]; exact d3
            · rw [fx la (by omega) (by omega) (by omega), tn 4 (by omega) (by omega)]; exact d4
            · rw [fx la (by omega) (by omega) (by omega)]; exact d5
            · rw [em]; exact dm
            · rw [tn 1 (by omega) (by omega)] at hf
              rw [fx _ (by omega) (by omega) (by omega), tn (8 + f) (by omega) (by omega)]; exact dO f hf
            · rw [tn 2 (by omega) (by omega)] at hk2
              have c3 := (c k2 hk2).2.2.1
              rw [fx (la + 3) (by omega) (by omega) (by omega), f6, hr k2 hk2, fx (la + 8) (by omega) (by omega) (by omega), fx (la + 9) (by omega) (by omega) (by omega), tn (26 + k2) (by omega) (by omega), fst0_un hx hy a2 q (tn 2 (by omega) (by omega)) (fun k _ => t61 k) (k := k2) (by omega)]
              refine ⟨(dk k2 hk2).1, rfl, fun i hi' => ?_⟩
              rw [tn (31 + 4 * k2 + i) (by omega) (by omega), tn _ (by omega) (by omega), tn _ (by omega) (by omega)]
              exact (dk k2 hk2).2.2 i hi'
            · rw [f5, t61, updA_at, updA_at, ds k2 hk2]
              split
              · rfl
              · split
                · rfl
                · rfl
            · rw [tn 4 (by omega) (by omega)] at hp
              rw [fx (la + 4) (by omega) (by omega) (by omega), fx (la + 8) (by omega) (by omega) (by omega), fx (la + 9) (by omega) (by omega) (by omega), tn (66 + p) (by omega) (by omega), tn (72 + p) (by omega) (by omega), tn (84 + _) (by omega) (by omega), tn (117 + _) (by omega) (by omega)]
              exact dp' p hp
            · exact g.slc (dq q hq) (by rw [fx (la + 8) (by omega) (by omega) (by omega)]) (by rw [fx (la + 9) (by omega) (by omega) (by omega)])
            · rw [fx s (by omega) (by omega) (by omega)]; exact dj j h1 h2
            · rw [fx s (by omega) (by omega) (by omega), tn 2 (by omega) (by omega)]; exact d2
            · rw [tn 2 (by omega) (by omega)] at hk2
              rw [fx (s + 1) (by omega) (by omega) (by omega), fx (s + 2) (by omega) (by omega) (by omega), fx (s + 3) (by omega) (by omega) (by omega), fx (s + 4) (by omega) (by omega) (by omega), fx (s + 5) (by omega) (by omega) (by omega), fx (s + 6) (by omega) (by omega) (by omega), tn (16 + k2) (by omega) (by omega), tn (21 + k2) (by omega) (by omega), tn (51 + k2) (by omega) (by omega), tn (56 + k2) (by omega) (by omega)]
              exact dst k2 hk2
            · rw [rowUp_ne _ _ (by omega), rowUp_ne _ _ (by omega), z3.2.2.2.2, z5.2.2.2.2, b3.2.2.2.2, y3.2.2.2.2, h22]
          · refine Or.inr ⟨fl, pl, I6, J6, L, M6, by rw [k1, b2s]; rfl, ?_, k2, z2, ⟨fun x a b c d => by rw [k3 x a, rowUp_ne _ _ (by omega), f4 x a (by omega)], fun _ _ _ _ => rfl⟩, y3.1.tr (b3.1.tr (z5.1.tr z3.1))⟩
            rw [z1, obind, gMI, obind, if_neg z2.ne]
    · have hh2 : ∃ c : Bool, mX12_has (nI (T (61 + x))) (0 : Int32) = some (bI c) := ⟨_, mhas_nI (i := 0) (by omega) (by omega)⟩
      obtain ⟨cc2, hcc⟩ := hh2
      rw [v1, b2s, if_pos rfl, g1, b2s, s37_bad g2, gM 1, RF_433_1, show (61 : Int32) = nI 61 from rfl, nI_add, ld435 (p2.2.2.2.2.1.mf g3) (by omega), obind, hcc, obind, s42_bad g2]
      have : (if nI x = 0 then some (hk τ J3 M2) else if bI cc2 = 0 then some (hk τ J3 M2) else some (hk τ J3 M2)) = some (hk τ J3 M2) := by
        split
        · rfl
        · split <;> rfl
      rw [this]
      exact Or.inr ⟨fl, _, I3, J3, L, M2, rfl, rfl, v2, g2, (i2.tr v3).fs, y3.1.tr (b3.1.tr g3.1)⟩
  · rw [x1, b2s, if_pos rfl, known_no b2' b1, b2s, here_bad b2' (by rw [b3.2.1]; exact p1.2.2.2.1.2.2.1) a1 (by rw [b3.2.1]; exact p1.2.2.2.1.2.2.2.1 hW) a2, b2s, if_pos rfl, s37_bad b2']
    exact Or.inr ⟨fl, _, I2, J2, L, _, rfl, rfl, x2, b2', (CF2.up.tr x3).fs, y3.1.tr b3.1⟩
end SameLine
