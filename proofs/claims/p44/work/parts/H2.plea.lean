/-! LINES of a suit: pleas -/
section H2
variable {σ : Sg} {I I' J I1 I2 I3 Ja : Nat → Nat → Int32} {L L' L1 L2 : Nat → Nat → Int64} {X : Nat → Nat} {n m i la off t1 t2 dp h0 N kk lim s v0 : Nat} {T T' : Nat → Nat} {R R' : List (Nat × Nat)} {v : Vt}
/-- EXPR, noted -/
theorem expr_ok {d : Nat} {Tt : Tr d} (hla : isLa la) (hg : gpl σ = la) (hoff : off ≤ 480) (ht : t1 ≤ 8) (hd : d ≤ 2) (ok : okT t1 d Tt) (h : PE I X n m la off t1 t2 T i (kA d Tt ++ R')) (hb : badE (hdk R') = false) (h6 : T 6 ≤ 32) :
    ∃ I' T', mX2_readEither 40 282 (0 : Int32) (hk σ I L) = some (1, hk σ I' L) ∧ PE I' X n m la off t1 t2 T' (i + (kA d Tt).length) R' ∧ T' 6 = T 6 + 1 ∧ T' (84 + T 6) = T 7 ∧ T' (117 + T 6) = T' 7 ∧
      (∀ j, j ≠ 7 → j ≠ 6 → j ≠ 84 + T 6 → j ≠ 117 + T 6 → j < 150 + T 7 → T' j = T j) ∧ RG t1 (cT T') (T 7) (T' 7) 0 1 ∧ SM (cT T') (T 7) (T' 7) 0 (hT d Tt) ∧ CF3 la I I' := by
  obtain ⟨I2, T2, e1, p2, l2, a2, r2, s2, f2⟩ := read_tree (σ := σ) (X := X) (n := n) (m := m) (t2 := t2) hla hg hoff ht hd ok (L := L) h hb
  have q1 := ((p2.set (k := 84 + T 6) (T 7) (by omega) (by omega)).set (k := 117 + T 6) (T2 7) (by omega) (by omega)).set (k := 6) (T 6 + 1) (by omega) (by omega)
  have ec : cT (updA (updA (updA T2 (84 + T 6) (T 7)) (117 + T 6) (T2 7)) 6 (T 6 + 1)) = cT T2 := by
    funext x
    show updA (updA (updA T2 _ _) _ _) 6 _ (150 + x) = T2 (150 + x)
    rw [updA_ne _ _ (by omega), updA_ne _ _ (by omega), updA_ne _ _ (by omega)]
  have e7 : updA (updA (updA T2 (84 + T 6) (T 7)) (117 + T 6) (T2 7)) 6 (T 6 + 1) 7 = T2 7 := by rw [updA_ne _ _ (by omega), updA_ne _ _ (by omega), updA_ne _ _ (by omega)]
  refine ⟨I2, _, e1, q1, updA_same _ _ _, ?_, ?_, fun j j7 j6 j84 j117 hj => ?_, ?_, ?_, f2⟩
  · rw [updA_ne _ _ (by omega), updA_ne _ _ (by omega), updA_same]
  · rw [e7, updA_ne _ _ (by omega), updA_same]
  · rw [updA_ne _ _ j6, updA_ne _ _ j117, updA_ne _ _ j84, a2 j j7 hj]
  · rw [ec, e7]; exact r2
  · rw [ec, e7]; exact s2
/-- EXPR read into a slot -/
theorem into_ok {d : Nat} {Tt : Tr d} (hla : isLa la) (hg : gpl σ = la) (ht : t1 ≤ 8) (hd : d ≤ 2) (ok : okT t1 d Tt) (h : PE I X n m la 0 t1 t2 T i (kA d Tt ++ R')) (hb : badE (hdk R') = false) (h6 : T 6 ≤ 32) (hs : s < 26) :
    ∃ I' T', mX2_readInto 282 (nI s) (hk σ I L) = some (1, hk σ I' L) ∧ PE I' X n m la 0 t1 t2 T' (i + (kA d Tt).length) R' ∧ T' 6 = T 6 + 1 ∧ T' (84 + T 6) = T 7 ∧ T' (117 + T 6) = T' 7 ∧
      (∀ j, j ≠ 7 → j ≠ 6 → j ≠ 84 + T 6 → j ≠ 117 + T 6 → j < 150 + T 7 → T' j = T j) ∧ RG t1 (cT T') (T 7) (T' 7) 0 1 ∧ I' (la + 8) = updA (I (la + 8)) s (nI (T 7)) ∧ I' (la + 9) = updA (I (la + 9)) s (nI (T' 7)) ∧
      (∀ x, x ≠ 282 → x ≠ la → x ≠ la + 7 → x ≠ la + 8 → x ≠ la + 9 → I' x = I x) ∧ (∀ k, k ≠ 13 → I' la k = I la k) := by
  have hgt := la_gt hla
  have sh : SH (gN σ) (la + 8) = (50, 26) ∧ SH (gN σ) (la + 9) = (50, 26) ∧ RF σ la 14 = la + 8 ∧ RF σ la 15 = la + 9 := by rcases hla with rfl | rfl <;> exact ⟨rfl, rfl, rfl, rfl⟩
  have k13 := h.2.2.2.1.1
  rw [Nat.zero_add] at k13
  have p1 := h.irow (x := la + 8) (updA (I (la + 8)) s (nI (T 7))) (by omega) (by omega) (by omega) (by omega) (by omega)
  have pre : ∀ {α : Type} (K : Hp → Option α), ((gR 2 3 282 (hk σ I L)).bind fun v1 => (gR 1 14 v1 (hk σ I L)).bind fun v2 => (gR 2 3 282 (hk σ I L)).bind fun v3 => (gI 1 13 v3 (hk σ I L)).bind fun v4 => (mX11_put v2 (nI s) v4 (hk σ I L)).bind K) = K (hk σ (rowUp I (la + 8) (updA (I (la + 8)) s (nI (T 7)))) L) := fun K => by
    rw [gDr, hg, gR_la hla, obind, sh.2.2.1, gDr, hg, gI_la hla, obind, k13, put_nI (n := 26) (by rw [hpS_hk]; exact sh.1) (by omega) hs, obind, setI_hk, hpI_hk']
  have post : ∀ {α : Type} (I2 : Nat → Nat → Int32) (K : Hp → Option α), ((gR 2 3 282 (hk σ I2 L)).bind fun v9 => (gR 1 15 v9 (hk σ I2 L)).bind fun v10 => (gR 2 3 282 (hk σ I2 L)).bind fun v11 => (gI 1 13 v11 (hk σ I2 L)).bind fun v12 => (mX11_put v10 (nI s) v12 (hk σ I2 L)).bind K) = K (hk σ (rowUp I2 (la + 9) (updA (I2 (la + 9)) s (I2 la 13))) L) := fun I2 K => by
    rw [gDr, hg, gR_la hla, obind, sh.2.2.2, gDr, hg, gI_la hla, obind, put_nI (n := 26) (by rw [hpS_hk]; exact sh.2.1) (by omega) hs, obind, setI_hk, hpI_hk']
  obtain ⟨I2, T2, e1, p2, a6, a84, a117, a2, r2, _, f2⟩ := expr_ok (σ := σ) (L := L) hla hg (by omega) ht hd ok p1 hb h6
  have q13 : I2 la 13 = nI (T2 7) := by have := p2.2.2.2.1.1; rw [Nat.zero_add] at this; exact this
  refine ⟨_, T2, ?_, p2.irow (x := la + 9) (updA (I2 (la + 9)) s (nI (T2 7))) (by omega) (by omega) (by omega) (by omega) (by omega), a6, a84, a117, a2, r2, ?_, ?_, fun x a b c d e => ?_, fun k hk' => ?_⟩
  · unfold mX2_readInto
    rw [if_pos s282, pre, e1, b2s, post, q13]
    rfl
  · rw [rowUp_ne _ _ (by omega), f2.1 _ (by omega) (by omega) (by omega), rowUp_same]
  · rw [rowUp_same, f2.1 _ (by omega) (by omega) (by omega), rowUp_ne _ _ (by omega)]
  · rw [rowUp_ne _ _ e, f2.1 x a b c, rowUp_ne _ _ d]
  · rw [rowUp_ne _ _ (by omega), f2.2.1 k hk', rowUp_ne _ _ (by omega)]
/-- a line that tells a PLEA -/
theorem pleaLine_ok {d k : Nat} {Tt : Tr d} (hla : isLa la) (hg : gpl σ = la) (ht : t1 ≤ 8) (hd : d ≤ 2) (ok : okT t1 d Tt) (hk' : k < t2) (h : PE I X n m la 0 t1 t2 T i ((262, v0) :: (2, 97 + k) :: (kA d Tt ++ ((59, 0) :: R')))) (h4 : I la 4 = nI (T 4)) (h46 : T 4 < 6) (h6 : T 6 ≤ 32) :
    ∃ I' T', mX2_readPlea 282 (hk σ I L) = some (1, hk σ I' L) ∧ PE I' X n m la 0 t1 t2 T' (i + (3 + (kA d Tt).length)) R' ∧ T' 6 = T 6 + 1 ∧ T' (84 + T 6) = T 7 ∧ T' (117 + T 6) = T' 7 ∧ T' 4 = T 4 + 1 ∧ T' (66 + T 4) = k ∧ T' (72 + T 4) = T 6 ∧
      (∀ j, j ≠ 7 → j ≠ 6 → j ≠ 4 → j ≠ 66 + T 4 → j ≠ 72 + T 4 → j ≠ 84 + T 6 → j ≠ 117 + T 6 → j < 150 + T 7 → T' j = T j) ∧ RG t1 (cT T') (T 7) (T' 7) 0 1 ∧ I' (la + 4) = updA (I (la + 4)) (T 4) (nI k) ∧ I' (la + 8) = updA (I (la + 8)) (20 + T 4) (nI (T 7)) ∧ I' (la + 9) = updA (I (la + 9)) (20 + T 4) (nI (T' 7)) ∧ I' la 4 = nI (T 4 + 1) ∧
      (∀ x, x ≠ 282 → x ≠ la → x ≠ la + 4 → x ≠ la + 7 → x ≠ la + 8 → x ≠ la + 9 → I' x = I x) ∧ (∀ k, k ≠ 13 → k ≠ 4 → I' la k = I la k) := by
  have hgt := la_gt hla
  have sh : SH (gN σ) (la + 4) = (50, 6) ∧ RF σ la 9 = la + 4 := by rcases hla with rfl | rfl <;> exact ⟨rfl, rfl⟩
  have p1 := h.nx hla
  obtain ⟨I2, a1, a2, a3, a4, a5⟩ := count_ok (σ := σ) (L := L) p1.1 (by rw [hg]; exact hla) (by rw [hg]; exact p1.2.2.1) hk' p1.2.1
  have p2 := p1.go hla a2 a3 a4
  have ia : ∀ x, x ≠ 282 → I2 x = I x := fun x hx => by rw [a4 x hx, rowUp_ne _ _ hx]
  have p3 := p2.irow (x := la + 4) (updA (I2 (la + 4)) (T 4) (nI k)) (by omega) (by omega) (by omega) (by omega) (by omega)
  obtain ⟨I3, T3, c1, p4, a6, a84, a117, a2', r2, x8, x9, f2, g2⟩ := into_ok (σ := σ) (L := L) (s := 20 + T 4) hla hg ht hd ok p3 (by show badE 59 = false; decide) h6 (by omega)
  have t34 : T3 4 = T 4 := a2' 4 (by omega) (by omega) (by omega) (by omega) (by omega)
  have z4 : I3 la 4 = nI (T 4) := by rw [g2 4 (by omega), rowUp_ne _ _ (by omega), ia la (by omega), h4]
  have p5 := p4.fld hla (k := 4) (nI (T 4 + 1)) (by omega) (by omega) (by omega)
  obtain ⟨I4, x1, p6, x3⟩ := p5.semi (σ := σ) (L := L) hla
  have q3 := ((p6.set (k := 66 + T 4) k (by omega) (by omega)).set (k := 72 + T 4) (T 6) (by omega) (by omega)).set (k := 4) (T 4 + 1) (by omega) (by omega)
  refine ⟨I4, updA (updA (updA T3 (66 + T 4) k) (72 + T 4) (T 6)) 4 (T 4 + 1), ?_, ?_, ?_, ?_, ?_, updA_same _ _ _, ?_, ?_, fun j j7 j6 j4 j66 j72 j84 j117 hj => ?_, ?_, ?_, ?_, ?_, ?_, fun x a b c d e f => ?_, fun k2 k13 k4 => ?_⟩
  · unfold mX2_readPlea
    rw [if_pos s282, gDr, hg, gI_la hla, obind, h4, if_pos (show nI (T 4) < (6 : Int32) from nI_lt (b := 6) h46 (by omega)), gPI, obind, h.1.2.2.2.2.2.1, sI_ok s282, obind, setI_hk, hpI_hk', nI_1, a1, b2s, if_neg (show ¬ (1 : Int32) = 0 by decide), gDr, hg, gR_la hla, obind, sh.2, gDr, hg, gI_la hla, obind, ia la (by omega), h4, gPI, obind, a5, put_nI (n := 6) (by rw [hpS_hk]; exact sh.1) (by omega) (by omega), obind, setI_hk, hpI_hk', gDr, hg, gI_la hla, obind, rowUp_ne (a := la + 4) (b := la) _ _ (by omega), ia la (by omega), h4, show (20 : Int32) = nI 20 from rfl, nI_add, c1, b2s, if_neg (show ¬ (1 : Int32) = 0 by decide), gDr, hg, gI_la hla, obind, z4, nI_1, sI_la hla, obind]
    exact x1
  · have e : i + 1 + 1 + (kA d Tt).length + 1 = i + (3 + (kA d Tt).length) := by omega
    rw [e] at q3; exact q3
  · rw [updA_ne _ _ (by omega), updA_ne _ _ (by omega), updA_ne _ _ (by omega), a6]
  · rw [updA_ne _ _ (by omega), updA_ne _ _ (by omega), updA_ne _ _ (by omega), a84]
  · rw [updA_ne _ _ (by omega), updA_ne _ _ (by omega), updA_ne _ _ (by omega), a117, updA_ne _ _ (by omega), updA_ne _ _ (by omega), updA_ne _ _ (by omega)]
  · rw [updA_ne _ _ (by omega), updA_ne _ _ (by omega), updA_same]
  · rw [updA_ne _ _ (by omega), updA_same]
  · rw [updA_ne _ _ j4, updA_ne _ _ j72, updA_ne _ _ j66, a2' j j7 j6 j84 j117 hj]
  · rw [updA_ne _ _ (by omega), updA_ne _ _ (by omega), updA_ne _ _ (by omega)]
    exact r2.cg (fun s _ _ => by show updA (updA (updA T3 _ _) _ _) 4 _ (150 + s) = T3 (150 + s); rw [updA_ne _ _ (by omega), updA_ne _ _ (by omega), updA_ne _ _ (by omega)])
  · rw [x3 _ (by omega), rowUp_ne _ _ (by omega), f2 _ (by omega) (by omega) (by omega) (by omega) (by omega), rowUp_same, ia _ (by omega)]
  · rw [x3 _ (by omega), rowUp_ne _ _ (by omega), x8, rowUp_ne _ _ (by omega), ia _ (by omega)]
  · rw [x3 _ (by omega), rowUp_ne _ _ (by omega), x9, rowUp_ne _ _ (by omega), ia _ (by omega), updA_ne _ _ (by omega), updA_ne _ _ (by omega), updA_ne _ _ (by omega)]
  · rw [x3 _ (by omega), rowUp_same, updA_same]
  · rw [x3 x a, rowUp_ne _ _ b, f2 x a b d e f, rowUp_ne _ _ c, ia x a]
  · rw [x3 _ (by omega), rowUp_same, updA_ne _ _ k4, g2 k2 k13, rowUp_ne _ _ (by omega), ia _ (by omega)]
/-- a PLEA -/
theorem l_plea {d kc : Nat} {Tt : Tr d} (hla : isLa la) (hg : gpl σ = la) (hs : s = 268 ∨ s = 275) (hd : d ≤ 2) (ok : okT (T 1) d Tt) (hkc : kc < T 2) (h46 : T 4 < 6) (h : SV I L X n m la s T lim i ((262, v0) :: (2, 97 + kc) :: (kA d Tt ++ ((59, 0) :: R')))) (hv : VW T lim v) : LQ σ I L X n m la s T (i + (3 + (kA d Tt).length)) R' (v.1, v.2.1, v.2.2.1, v.2.2.2.1 + 1, v.2.2.2.2) (mX2_readPlea 282 (hk σ I L)) := by
  have hla' : la = 112 ∨ la = 190 := hla
  obtain ⟨hp, hS, hD, hO⟩ := h
  have h6 : T 6 ≤ 32 := by have := hS.t6; have := hS.1.2.1; omega
  obtain ⟨I', T', e1, p', a6', a84, a117, a4', a66, a72, a, rg, f4, f8, f9, f40, fx, fk⟩ := pleaLine_ok (σ := σ) (L := L) hla hg hS.1.1 hd ok hkc hp hD.1.2.2.1 h46 h6
  have rge := rg.1.1
  have tn : ∀ j, j < 66 → j ≠ 7 → j ≠ 6 → j ≠ 4 → T' j = T j := fun j h1 h2 h3 h4 => a j h2 h3 h4 (by omega) (by omega) (by omega) (by omega) (by omega)
  have tm : ∀ j, 66 ≤ j → j < 84 → j ≠ 66 + T 4 → j ≠ 72 + T 4 → T' j = T j := fun j h1 h2 h3 h4 => a j (by omega) (by omega) (by omega) h3 h4 (by omega) (by omega) (by omega)
  have g : GR T T' := ⟨rge, fun j h1 h2 => a j (by omega) (by omega) (by omega) (by omega) (by omega) (by omega) (by omega) h2, fun e he => ⟨a _ (by omega) (by omega) (by omega) (by omega) (by omega) (by omega) (by omega) (by omega), a _ (by omega) (by omega) (by omega) (by omega) (by omega) (by omega) (by omega) (by omega)⟩⟩
  have em : may T' = may T := g.mayc hS (tn 3 (by omega) (by omega) (by omega) (by omega)) (fun k hk' => tm _ (by omega) (by have := hS.1.2.2.1; omega) (by omega) (by omega))
  have ef : fst0 T' = fst0 T := fst0_cg (tn 2 (by omega) (by omega) (by omega) (by omega)) (fun k hk' => tn _ (by have := hS.1.2.1; omega) (by omega) (by omega) (by omega))
  have u1 : T' 1 = T 1 := tn 1 (by omega) (by omega) (by omega) (by omega)
  have u2 : T' 2 = T 2 := tn 2 (by omega) (by omega) (by omega) (by omega)
  have u3 : T' 3 = T 3 := tn 3 (by omega) (by omega) (by omega) (by omega)
  obtain ⟨⟨a1, a2, a3, a4, a5, a6, a7⟩, b, c, d, ee, ff, gq, hh, w, w1, w2⟩ := id hS
  obtain ⟨⟨d0, d3, d4, d5, dm⟩, dO, dk, ds, dp', dq, ⟨dj, d2⟩, dst⟩ := hD
  refine ⟨I', L, T', lim, e1, ⟨by rw [u1, u2]; exact p', ⟨⟨?_, ?_, ?_, ?_, a5, ?_, ?_⟩, fun f hf => ?_, fun k hk' => ?_, fun k h1 h2 => ?_, fun p hp => ?_, fun k hk' => ?_, fun e he => ?_, fun s hs' => ?_, w, ?_, ?_⟩, ⟨⟨?_, ?_, ?_, ?_, ?_⟩, fun f hf => ?_, fun k hk' => ?_, fun k hk' => ?_, fun p hp => ?_, fun q hq => ?_, ⟨fun j h1 h2 => ?_, ?_⟩, fun k hk' => ?_⟩, hO⟩, ⟨by rw [u1]; exact hv.1, by rw [u2]; exact hv.2.1, by rw [u3]; exact hv.2.2.1, by rw [a4', hv.2.2.2.1], hv.2.2.2.2.1, fun k hk' => by rw [tn (51 + k) (by omega) (by omega) (by omega) (by omega)]; exact hv.2.2.2.2.2.1 k hk', fun k hk' => by rw [tn (61 + k) (by omega) (by omega) (by omega) (by omega)]; exact hv.2.2.2.2.2.2.1 k hk', fun w => by rw [em]; exact hv.2.2.2.2.2.2.2 w⟩, tn 0 (by omega) (by omega) (by omega) (by omega), ⟨fun x a b c d => fx x (by omega) (by omega) (by omega) (by omega) (by omega) (by omega), fun _ _ _ _ => rfl⟩⟩
  · rw [u1]; exact a1
  · rw [u2]; exact a2
  · rw [u3]; exact a3
  · rw [a4']; omega
  · rw [tn 5 (by omega) (by omega) (by omega) (by omega)]; exact a6
  · rw [a6', u3, a4', u2, ndT_cg (fun k hk' => tn _ (by omega) (by omega) (by omega) (by omega))]; omega
  · rw [u1] at hf
    rw [tn (8 + f) (by omega) (by omega) (by omega) (by omega)]; exact b f hf
  · rw [u2] at hk'
    obtain ⟨c1, c2, c3, c4, c5, c6, c7⟩ := c k hk'
    refine ⟨?_, ?_, ?_, fun i hi' => ?_, ?_, ?_, ?_⟩
    · rw [tn (16 + k) (by omega) (by omega) (by omega) (by omega)]; exact c1
    · rw [tn (21 + k) (by omega) (by omega) (by omega) (by omega)]; exact c2
    · rw [tn (26 + k) (by omega) (by omega) (by omega) (by omega)]; exact c3
    · rw [tn (26 + k) (by omega) (by omega) (by omega) (by omega)] at hi'
      rw [tn (31 + 4 * k + i) (by omega) (by omega) (by omega) (by omega), a6']
      have := c4 i hi'
      omega
    · rw [tn (51 + k) (by omega) (by omega) (by omega) (by omega), u1]; exact c5
    · rw [tn (51 + k) (by omega) (by omega) (by omega) (by omega), tn (56 + k) (by omega) (by omega) (by omega) (by omega)]; exact c6
    · rw [tn (61 + k) (by omega) (by omega) (by omega) (by omega), u2]; exact c7
  · rw [u2] at h1
    simp (disch := omega) only [tn]
    exact d k h1 h2
  · rw [a4'] at hp
    rw [u2, a6']
    by_cases q : p = T 4
    · rw [q, a66, a72]; omega
    · rw [tm (66 + p) (by omega) (by omega) (by omega) (by omega), tm (72 + p) (by omega) (by omega) (by omega) (by omega)]
      have := ee p (by omega)
      omega
  · rw [u3] at hk'
    rw [tm (78 + k) (by omega) (by omega) (by omega) (by omega), a6']
    have := ff k hk'
    omega
  · rw [a6'] at he
    by_cases q : e = T 6
    · rw [q, a84, a117]; exact ⟨rg.wf, Nat.le_refl _⟩
    · have he' : e < T 6 := by omega
      rw [(g.2.2 e he').1, (g.2.2 e he').2]
      exact ⟨g.wfc (hS.ew he').2 (hS.ew he').1, Nat.le_trans (hS.ew he').2 rge⟩
  · rw [u1]
    by_cases q : s < T 7
    · rw [g.ct q]; exact hh s q
    · exact rg.2 s (by omega) hs'
  · rw [u1]; exact w1
  · rw [em]; exact w2
  · rw [fk 0 (by omega) (by omega), tn 0 (by omega) (by omega) (by omega) (by omega)]; exact d0
  · rw [fk 3 (by omega) (by omega), u3]; exact d3
  · rw [f40, a4']
  · rw [fk 5 (by omega) (by omega)]; exact d5
  · rw [em]; exact dm
  · rw [u1] at hf
    rw [fx (la + 1) (by omega) (by omega) (by omega) (by omega) (by omega) (by omega), tn (8 + f) (by omega) (by omega) (by omega) (by omega)]
    exact dO f hf
  · rw [u2] at hk'
    obtain ⟨k1, k2, k3⟩ := dk k hk'
    have c3 := (c k hk').2.2.1
    refine ⟨?_, ?_, fun i hi' => ?_⟩
    · rw [fx (la + 3) (by omega) (by omega) (by omega) (by omega) (by omega) (by omega), tn (26 + k) (by omega) (by omega) (by omega) (by omega)]; exact k1
    · rw [fx (la + 6) (by omega) (by omega) (by omega) (by omega) (by omega) (by omega), ef]; exact k2
    · rw [tn (26 + k) (by omega) (by omega) (by omega) (by omega)] at hi'
      have c4 := (c k hk').2.2.2.1 i hi'
      rw [tn (31 + 4 * k + i) (by omega) (by omega) (by omega) (by omega), (g.2.2 _ c4).1, (g.2.2 _ c4).2, f8, f9, updA_ne _ _ (by omega), updA_ne _ _ (by omega)]
      exact k3 i hi'
  · rw [fx (la + 5) (by omega) (by omega) (by omega) (by omega) (by omega) (by omega), tn (61 + k) (by omega) (by omega) (by omega) (by omega)]
    exact ds k hk'
  · rw [a4'] at hp
    rw [f4, f8, f9]
    by_cases q : p = T 4
    · rw [q, a66, a72, a84, a117, updA_same, updA_same, updA_same]; exact ⟨rfl, rfl, rfl⟩
    · have c4 := (ee p (by omega)).2
      rw [tm (66 + p) (by omega) (by omega) (by omega) (by omega), tm (72 + p) (by omega) (by omega) (by omega) (by omega), (g.2.2 _ c4).1, (g.2.2 _ c4).2, updA_ne _ _ (by omega), updA_ne _ _ (by omega), updA_ne _ _ (by omega)]
      exact dp' p (by omega)
  · by_cases e : q = 20 + T 4
    · exact ⟨T 7, T' 7, by rw [f8, e, updA_same], by rw [f9, e, updA_same], rge, Nat.le_refl _, rg.wf.2.1⟩
    · exact g.slc (dq q hq) (by rw [f8, updA_ne _ _ e]) (by rw [f9, updA_ne _ _ e])
  · rw [fx s (by omega) (by omega) (by omega) (by omega) (by omega) (by omega)]; exact dj j h1 h2
  · rw [fx s (by omega) (by omega) (by omega) (by omega) (by omega) (by omega), u2]; exact d2
  · rw [u2] at hk'
    simp (disch := omega) only [tn, fx]
    exact dst k hk'
end H2
