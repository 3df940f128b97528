section Lines
variable {σ τ : Sg} {I I' J J' I1 I2 I3 Ja : Nat → Nat → Int32} {L L' M M' L1 L2 : Nat → Nat → Int64} {X : Nat → Nat} {n m i la off t1 t2 fl pl dp h0 N kk lim s : Nat} {W : Nat → List Nat} {T T' : Nat → Nat}
/-- a FACT -/
theorem l_fact (hla : isLa la) (hg : gpl σ = la) (hs : s = 268 ∨ s = 275) (h : SV I J L M X n m i la s W T lim) (hc0 : ck X n (pz X n i) ≠ 0) (hc1 : ck X n (pz X n i) ≠ 1) : LQ σ τ I J L M X n m i la s T (mX2_readFact 282 (hk σ I L)) (mX12_readFact 433 (hk τ J M)) := by
  have hla' : la = 112 ∨ la = 190 := hla
  obtain ⟨⟨dp, hp⟩, hS, hD, h22, hO, hW⟩ := h
  rcases factLine_ok (σ := σ) (τ := τ) (L := L) hW hla hg hp hc0 hc1 with ⟨o, l, I', J', M', i', ht, ho1, ho9, e1, e2, hi, p', f1, fx, fk, mf, f22⟩ | ⟨fl, pl, I', J', M', e1, e2, ⟨z1, z2, z3, _⟩, fx⟩
  · obtain ⟨T', hT⟩ : ∃ T', T' = updA (updA T (8 + T 1) o) 1 (T 1 + 1) := ⟨_, rfl⟩
    rw [← hT] at p'
    have t1 : T' 1 = T 1 + 1 := by rw [hT, updA_same]
    have t8 : T' (8 + T 1) = o := by rw [hT, updA_ne _ _ (by omega), updA_same]
    have tn : ∀ j, j ≠ 1 → j ≠ 8 + T 1 → T' j = T j := fun j a b => by rw [hT, updA_ne _ _ a, updA_ne _ _ b]
    have g : GR T T' := ⟨by rw [tn 7 (by omega) (by omega)]; exact Nat.le_refl _, fun j h1 h2 => tn j (by omega) (by omega), fun e he => ⟨tn _ (by omega) (by omega), tn _ (by omega) (by omega)⟩⟩
    have em : may T' = may T := g.mayc hS (tn 3 (by omega) (by omega)) (fun k _ => tn _ (by omega) (by omega))
    have ef : fst0 T' = fst0 T := fst0_cg (tn 2 (by omega) (by omega)) (fun k _ => tn _ (by omega) (by omega))
    have pw : (2 : Nat) ^ T 1 ≤ 2 ^ (T 1 + 1) := Nat.pow_le_pow_right (by omega) (by omega)
    obtain ⟨⟨a1, a2, a3, a4, a5, a6, a7⟩, b, c, d, ee, ff, gq, hh, w, w1, w2⟩ := id hS
    obtain ⟨⟨d0, d3, d4, d5, dm⟩, dO, dk, ds, dp', dq, ⟨dj, d2⟩, dst⟩ := hD
    refine Or.inl ⟨I', J', L, M', i', _, T', lim, e1, e2, ⟨⟨dp, by rw [t1, tn 2 (by omega) (by omega)]; exact p'⟩, ⟨⟨?_, ?_, ?_, ?_, a5, ?_, ?_⟩, fun f hf => ?_, fun k hk' => ?_, fun k h1 h2 => ?_, fun p hp => ?_, fun k hk' => ?_, fun e he => ?_, fun s hs' => ?_, w, ?_, ?_⟩, ⟨⟨?_, ?_, ?_, ?_, ?_⟩, fun f hf => ?_, fun k hk' => ?_, fun k hk' => ?_, fun p hp => ?_, fun q hq => ?_, ⟨fun j h1 h2 => ?_, ?_⟩, fun k hk' => ?_⟩, by rw [f22, h22], hO, by rw [updA_ne _ _ (by omega)]; exact hW⟩, tn 0 (by omega) (by omega), hi, ⟨fun x a b c d => fx x (by omega) (by omega) (by omega) (by omega), fun _ _ _ _ => rfl⟩, mf⟩
    · rw [t1]; omega
    · rw [tn 2 (by omega) (by omega)]; exact a2
    · rw [tn 3 (by omega) (by omega)]; exact a3
    · rw [tn 4 (by omega) (by omega)]; exact a4
    · rw [tn 5 (by omega) (by omega)]; exact a6
    · rw [tn 6 (by omega) (by omega), tn 3 (by omega) (by omega), tn 4 (by omega) (by omega), tn 2 (by omega) (by omega), ndT_cg (fun k _ => tn _ (by omega) (by omega))]; exact a7
    · rw [t1] at hf
      by_cases q : f = T 1
      · rw [q, t8]; exact ⟨ho1, ho9⟩
      · rw [tn (8 + f) (by omega) (by omega)]; exact b f (by omega)
    · rw [tn 2 (by omega) (by omega)] at hk'
      obtain ⟨c1, c2, c3, c4, c5, c6, c7⟩ := c k hk'
      simp (disch := omega) only [tn]
      rw [t1]
      exact ⟨c1, c2, c3, c4, by omega, c6, c7⟩
    · rw [tn 2 (by omega) (by omega)] at h1
      simp (disch := omega) only [tn]
      exact d k h1 h2
    · rw [tn 4 (by omega) (by omega)] at hp
      simp (disch := omega) only [tn]
      exact ee p hp
    · rw [tn 3 (by omega) (by omega)] at hk'
      simp (disch := omega) only [tn]
      exact ff k hk'
    · rw [tn 6 (by omega) (by omega)] at he
      rw [(g.2.2 e he).1, (g.2.2 e he).2, tn 7 (by omega) (by omega)]
      exact ⟨g.wfc (hS.ew he).2 (hS.ew he).1, (hS.ew he).2⟩
    · rw [tn 7 (by omega) (by omega)] at hs'
      rw [g.ct hs', t1]
      intro h
      have := hh s hs' h
      omega
    · rw [t1]; omega
    · rw [em]; exact w2
    · rw [fk 0 (by omega), tn 0 (by omega) (by omega)]; exact d0
    · rw [fk 3 (by omega), tn 3 (by omega) (by omega)]; exact d3
    · rw [fk 4 (by omega), tn 4 (by omega) (by omega)]; exact d4
    · rw [fk 5 (by omega)]; exact d5
    · rw [em]; exact dm
    · rw [t1] at hf
      rw [f1, updA_at]
      by_cases q : f = T 1
      · rw [if_pos q, q, t8]
      · rw [if_neg q, tn (8 + f) (by omega) (by omega)]; exact dO f (by omega)
    · rw [tn 2 (by omega) (by omega)] at hk'
      simp (disch := omega) only [tn, fx, ef]
      exact dk k hk'
    · simp (disch := omega) only [tn, fx]
      exact ds k hk'
    · rw [tn 4 (by omega) (by omega)] at hp
      simp (disch := omega) only [tn, fx]
      exact dp' p hp
    · exact g.slc (dq q hq) (by rw [fx (la + 8) (by omega) (by omega) (by omega) (by omega)]) (by rw [fx (la + 9) (by omega) (by omega) (by omega) (by omega)])
    · rw [fx s (by omega) (by omega) (by omega) (by omega)]; exact dj j h1 h2
    · rw [fx s (by omega) (by omega) (by omega) (by omega), tn 2 (by omega) (by omega)]; exact d2
    · rw [tn 2 (by omega) (by omega)] at hk'
      simp (disch := omega) only [tn, fx]
      exact dst k hk'
  · exact Or.inr ⟨fl, pl, I', J', L, M', e1, e2, z1, z2, ⟨fun x a b c d => fx x (by omega) (by omega) (by omega) (by omega), fun _ _ _ _ => rfl⟩, z3⟩
/-- limit -/
theorem l_limit (hla : isLa la) (hg : gpl σ = la) (hs : s = 268 ∨ s = 275) (h : SV I J L M X n m i la s W T lim) (hc0 : ck X n (pz X n i) ≠ 0) (hc1 : ck X n (pz X n i) ≠ 1) : LQ σ τ I J L M X n m i la s T (mX2_readLimit 282 (hk σ I L)) (mX12_readLimit 433 (hk τ J M)) := by
  have hla' : la = 112 ∨ la = 190 := hla
  obtain ⟨⟨dp, hp⟩, hS, hD, h22, hO, hW⟩ := h
  rcases limit_ok (σ := σ) (τ := τ) (L := L) (lim := lim) hla hg hp hc0 hc1 hD.1.2.2.2.1 hS.1.2.2.2.2.1 h22 with ⟨v, I', J', M', i', hz, hv1, hv9, e1, e2, p', hi, f5, f22, fx, fk, mf, _⟩ | ⟨fl, pl, I', J', M', e1, e2, ⟨z1, z2, z3, _⟩, fx⟩
  · obtain ⟨T', hT⟩ : ∃ T', T' = updA T 5 v := ⟨_, rfl⟩
    rw [← hT] at p'
    have t5 : T' 5 = v := by rw [hT, updA_same]
    have tn : ∀ j, j ≠ 5 → T' j = T j := fun j a => by rw [hT, updA_ne _ _ a]
    have g : GR T T' := ⟨by rw [tn 7 (by omega)]; exact Nat.le_refl _, fun j h1 h2 => tn j (by omega), fun e he => ⟨tn _ (by omega), tn _ (by omega)⟩⟩
    have em : may T' = may T := g.mayc hS (tn 3 (by omega)) (fun k _ => tn _ (by omega))
    have ef : fst0 T' = fst0 T := fst0_cg (tn 2 (by omega)) (fun k _ => tn _ (by omega))
    obtain ⟨⟨a1, a2, a3, a4, a5, a6, a7⟩, b, c, d, ee, ff, gq, hh, w, w1, w2⟩ := id hS
    obtain ⟨⟨d0, d3, d4, d5, dm⟩, dO, dk, ds, dp', dq, ⟨dj, d2⟩, dst⟩ := hD
    refine Or.inl ⟨I', J', L, M', i', W, T', v, e1, e2, ⟨⟨dp, by rw [tn 1 (by omega), tn 2 (by omega)]; exact p'⟩, ⟨⟨?_, ?_, ?_, ?_, hv9, ?_, ?_⟩, fun f hf => ?_, fun k hk' => ?_, fun k h1 h2 => ?_, fun p hp => ?_, fun k hk' => ?_, fun e he => ?_, fun s hs' => ?_, w, ?_, ?_⟩, ⟨⟨?_, ?_, ?_, f5, ?_⟩, fun f hf => ?_, fun k hk' => ?_, fun k hk' => ?_, fun p hp => ?_, fun q hq => ?_, ⟨fun j h1 h2 => ?_, ?_⟩, fun k hk' => ?_⟩, by rw [f22, decide_eq_true (show v ≠ 0 by omega)]; rfl, hO, hW⟩, tn 0 (by omega), hi, ⟨fun x a b c d => fx x (by omega) (by omega), fun _ _ _ _ => rfl⟩, mf⟩
    · rw [tn 1 (by omega)]; omega
    · rw [tn 2 (by omega)]; exact a2
    · rw [tn 3 (by omega)]; exact a3
    · rw [tn 4 (by omega)]; exact a4
    · rw [t5, if_neg (by omega)]
    · rw [tn 6 (by omega), tn 3 (by omega), tn 4 (by omega), tn 2 (by omega), ndT_cg (fun k _ => tn _ (by omega))]; exact a7
    · rw [tn 1 (by omega)] at hf
      simp (disch := omega) only [tn]
      exact b f hf
    · rw [tn 2 (by omega)] at hk'
      simp (disch := omega) only [tn]
      exact c k hk'
    · rw [tn 2 (by omega)] at h1
      simp (disch := omega) only [tn]
      exact d k h1 h2
    · rw [tn 4 (by omega)] at hp
      simp (disch := omega) only [tn]
      exact ee p hp
    · rw [tn 3 (by omega)] at hk'
      simp (disch := omega) only [tn]
      exact ff k hk'
    · rw [tn 6 (by omega)] at he
      rw [(g.2.2 e he).1, (g.2.2 e he).2, tn 7 (by omega)]
      exact ⟨g.wfc (hS.ew he).2 (hS.ew he).1, (hS.ew he).2⟩
    · rw [tn 7 (by omega)] at hs'
      rw [g.ct hs', tn 1 (by omega)]
      exact hh s hs'
    · rw [tn 1 (by omega)]; omega
    · rw [em]; exact w2
    · rw [fk 0 (by omega), tn 0 (by omega)]; exact d0
    · rw [fk 3 (by omega), tn 3 (by omega)]; exact d3
    · rw [fk 4 (by omega), tn 4 (by omega)]; exact d4
    · rw [em]; exact dm
    · rw [tn 1 (by omega)] at hf
      simp (disch := omega) only [tn, fx]
      exact dO f hf
    · rw [tn 2 (by omega)] at hk'
      simp (disch := omega) only [tn, fx, ef]
      exact dk k hk'
    · simp (disch := omega) only [tn, fx]
      exact ds k hk'
    · rw [tn 4 (by omega)] at hp
      simp (disch := omega) only [tn, fx]
      exact dp' p hp
    · exact g.slc (dq q hq) (by rw [fx (la + 8) (by omega) (by omega)]) (by rw [fx (la + 9) (by omega) (by omega)])
    · rw [fx s (by omega) (by omega)]; exact dj j h1 h2
    · rw [fx s (by omega) (by omega), tn 2 (by omega)]; exact d2
    · rw [tn 2 (by omega)] at hk'
      simp (disch := omega) only [tn, fx]
      exact dst k hk'
  · exact Or.inr ⟨fl, pl, I', J', L, M', e1, e2, z1, z2, ⟨fun x a b c d => fx x (by omega) (by omega), fun _ _ _ _ => rfl⟩, z3⟩
/-- a PLEA -/
theorem l_plea (hla : isLa la) (hg : gpl σ = la) (hs : s = 268 ∨ s = 275) (h : SV I J L M X n m i la s W T lim) (hc0 : ck X n (pz X n i) ≠ 0) (hc1 : ck X n (pz X n i) ≠ 1) : LQ σ τ I J L M X n m i la s T (mX2_readPlea 282 (hk σ I L)) (mX12_readPlea 433 (hk τ J M)) := by
  have hla' : la = 112 ∨ la = 190 := hla
  obtain ⟨⟨dp, hp⟩, hS, hD, h22, hO, hW⟩ := h
  have h6 : T 6 ≤ 32 := by have := hS.t6; have := hS.1.2.1; omega
  rcases pleaLine_ok (σ := σ) (τ := τ) (L := L) hW hla hg hp hc0 hc1 hD.1.2.2.1 hS.1.2.2.2.1 h6 with ⟨kc, I', J', M', i', T', h46, hkc, e1, e2, hi, p', a6', a84, a117, a4', a66, a72, a, rg, f4, f8, f9, f40, fx, fk, mx⟩ | ⟨fl, pl, I', J', M', e1, e2, z1, z2, z3, fx⟩
  · have rge := rg.1.1
    have tn : ∀ j, j < 66 → j ≠ 7 → j ≠ 6 → j ≠ 4 → T' j = T j := fun j h1 h2 h3 h4 => a j h2 h3 h4 (by omega) (by omega) (by omega) (by omega) (by omega)
    have tm : ∀ j, 66 ≤ j → j < 84 → j ≠ 66 + T 4 → j ≠ 72 + T 4 → T' j = T j := fun j h1 h2 h3 h4 => a j (by omega) (by omega) (by omega) h3 h4 (by omega) (by omega) (by omega)
    have g : GR T T' := ⟨rge, fun j h1 h2 => a j (by omega) (by omega) (by omega) (by omega) (by omega) (by omega) (by omega) h2, fun e he => ⟨a _ (by omega) (by omega) (by omega) (by omega) (by omega) (by omega) (by omega) (by omega), a _ (by omega) (by omega) (by omega) (by omega) (by omega) (by omega) (by omega) (by omega)⟩⟩
    have em : may T' = may T := g.mayc hS (tn 3 (by omega) (by omega) (by omega) (by omega)) (fun k hk' => tm _ (by omega) (by have := hS.1.2.2.1; omega) (by omega) (by omega))
    have ef : fst0 T' = fst0 T := fst0_cg (tn 2 (by omega) (by omega) (by omega) (by omega)) (fun k hk' => tn _ (by have := hS.1.2.1; omega) (by omega) (by omega) (by omega))
    have u1 : T' 1 = T 1 := tn 1 (by omega) (by omega) (by omega) (by omega)
    have u2 : T' 2 = T 2 := tn 2 (by omega) (by omega) (by omega) (by omega)
    have u3 : T' 3 = T 3 := tn 3 (by omega) (by omega) (by omega) (by omega)
    obtain ⟨⟨a1, a2, a3, a4, a5, a6, a7⟩, b, c, d, ee, ff, gq, hh, w, w1, w2⟩ := id hS
    obtain ⟨⟨d0, d3, d4, d5, dm⟩, dO, dk, ds, dp', dq, ⟨dj, d2⟩, dst⟩ := hD
    refine Or.inl ⟨I', J', L, M', i', W, T', lim, e1, e2, ⟨⟨0, by rw [u1, u2]; exact p'⟩, ⟨⟨?_, ?_, ?_, ?_, a5, ?_, ?_⟩, fun f hf => ?_, fun k hk' => ?_, fun k h1 h2 => ?_, fun p hp => ?_, fun k hk' => ?_, fun e he => ?_, fun s hs' => ?_, w, ?_, ?_⟩, ⟨⟨?_, ?_, ?_, ?_, ?_⟩, fun f hf => ?_, fun k hk' => ?_, fun k hk' => ?_, fun p hp => ?_, fun q hq => ?_, ⟨fun j h1 h2 => ?_, ?_⟩, fun k hk' => ?_⟩, by rw [mx.2.2, h22], hO, hW⟩, tn 0 (by omega) (by omega) (by omega) (by omega), hi, ⟨fun x a b c d => fx x (by omega) (by omega) (by omega) (by omega) (by omega) (by omega), fun _ _ _ _ => rfl⟩, mx.1⟩
    · rw [u1]; exact a1
    · rw [u2]; exact a2
    · rw [u3]; exact a3
    · rw [a4']; omega
    · rw [tn 5 (by omega) (by omega) (by omega) (by omega)]; exact a6
    · rw [a6', u3, a4', u2, ndT_cg (fun k hk' => tn _ (by omega) (by omega) (by omega) (by omega))]; omega
    · rw [u1] at hf
      rw [tn (8 + f) (by omega) (by omega) (by omega) (by omega)]; exact b f hf
    · rw [u2] at hk'
      obtain ⟨c1, c2, c3, c4, c5, c6, c7⟩ := c k hk'
      refine ⟨?_, ?_, ?_, fun i hi' => ?_, ?_, ?_, ?_⟩
      · rw [tn (16 + k) (by omega) (by omega) (by omega) (by omega)]; exact c1
      · rw [tn (21 + k) (by omega) (by omega) (by omega) (by omega)]; exact c2
      · rw [tn (26 + k) (by omega) (by omega) (by omega) (by omega)]; exact c3
      · rw [tn (26 + k) (by omega) (by omega) (by omega) (by omega)] at hi'
        rw [tn (31 + 4 * k + i) (by omega) (by omega) (by omega) (by omega), a6']
        have := c4 i hi'
        omega
      · rw [tn (51 + k) (by omega) (by omega) (by omega) (by omega), u1]; exact c5
      · rw [tn (51 + k) (by omega) (by omega) (by omega) (by omega), tn (56 + k) (by omega) (by omega) (by omega) (by omega)]; exact c6
      · rw [tn (61 + k) (by omega) (by omega) (by omega) (by omega), u2]; exact c7
    · rw [u2] at h1
      simp (disch := omega) only [tn]
      exact d k h1 h2
    · rw [a4'] at hp
      rw [u2, a6']
      by_cases q : p = T 4
      · rw [q, a66, a72]; omega
      · rw [tm (66 + p) (by omega) (by omega) (by omega) (by omega), tm (72 + p) (by omega) (by omega) (by omega) (by omega)]
        have := ee p (by omega)
        omega
    · rw [u3] at hk'
      rw [tm (78 + k) (by omega) (by omega) (by omega) (by omega), a6']
      have := ff k hk'
      omega
    · rw [a6'] at he
      by_cases q : e = T 6
      · rw [q, a84, a117]; exact ⟨rg.wf, Nat.le_refl _⟩
      · have he' : e < T 6 := by omega
        rw [(g.2.2 e he').1, (g.2.2 e he').2]
        exact ⟨g.wfc (hS.ew he').2 (hS.ew he').1, Nat.le_trans (hS.ew he').2 rge⟩
    · rw [u1]
      by_cases q : s < T 7
      · rw [g.ct q]; exact hh s q
      · exact rg.2 s (by omega) hs'
    · rw [u1]; exact w1
    · rw [em]; exact w2
    · rw [fk 0 (by omega) (by omega), tn 0 (by omega) (by omega) (by omega) (by omega)]; exact d0
    · rw [fk 3 (by omega) (by omega), u3]; exact d3
    · rw [f40, a4']
    · rw [fk 5 (by omega) (by omega)]; exact d5
    · rw [em]; exact dm
    · rw [u1] at hf
      rw [fx (la + 1) (by omega) (by omega) (by omega) (by omega) (by omega) (by omega), tn (8 + f) (by omega) (by omega) (by omega) (by omega)]
      exact dO f hf
    · rw [u2] at hk'
      obtain ⟨k1, k2, k3⟩ := dk k hk'
      have c3 := (c k hk').2.2.1
      refine ⟨?_, ?_, fun i hi' => ?_⟩
      · rw [fx (la + 3) (by omega) (by omega) (by omega) (by omega) (by omega) (by omega), tn (26 + k) (by omega) (by omega) (by omega) (by omega)]; exact k1
      · rw [fx (la + 6) (by omega) (by omega) (by omega) (by omega) (by omega) (by omega), ef]; exact k2
      · rw [tn (26 + k) (by omega) (by omega) (by omega) (by omega)] at hi'
        have c4 := (c k hk').2.2.2.1 i hi'
        rw [tn (31 + 4 * k + i) (by omega) (by omega) (by omega) (by omega), (g.2.2 _ c4).1, (g.2.2 _ c4).2, f8, f9, updA_ne _ _ (by omega), updA_ne _ _ (by omega)]
        exact k3 i hi'
    · rw [fx (la + 5) (by omega) (by omega) (by omega) (by omega) (by omega) (by omega), tn (61 + k) (by omega) (by omega) (by omega) (by omega)]
      exact ds k hk'
    · rw [a4'] at hp
      rw [f4, f8, f9]
      by_cases q : p = T 4
      · rw [q, a66, a72, a84, a117, updA_same, updA_same, updA_same]; exact ⟨rfl, rfl, rfl⟩
      · have c4 := (ee p (by omega)).2
        rw [tm (66 + p) (by omega) (by omega) (by omega) (by omega), tm (72 + p) (by omega) (by omega) (by omega) (by omega), (g.2.2 _ c4).1, (g.2.2 _ c4).2, updA_ne _ _ (by omega), updA_ne _ _ (by omega), updA_ne _ _ (by omega)]
        exact dp' p (by omega)
    · by_cases e : q = 20 + T 4
      · exact ⟨T 7, T' 7, by rw [f8, e, updA_same], by rw [f9, e, updA_same], rge, Nat.le_refl _, rg.wf.2.1⟩
      · exact g.slc (dq q hq) (by rw [f8, updA_ne _ _ e]) (by rw [f9, updA_ne _ _ e])
    · rw [fx s (by omega) (by omega) (by omega) (by omega) (by omega) (by omega)]; exact dj j h1 h2
    · rw [fx s (by omega) (by omega) (by omega) (by omega) (by omega) (by omega), u2]; exact d2
    · rw [u2] at hk'
      simp (disch := omega) only [tn, fx]
      exact dst k hk'
  · exact Or.inr ⟨fl, pl, I', J', L, M', e1, e2, z1, z2, ⟨fun x a b c d => fx x (by omega) (by omega) (by omega) (by omega) (by omega) (by omega), fun _ _ _ _ => rfl⟩, z3⟩
end Lines
