/-! LINES of a suit: facts, the limit, pleas -/
section H1
variable {σ : Sg} {I I' J I1 I2 I3 Ja : Nat → Nat → Int32} {L L' L1 L2 : Nat → Nat → Int64} {X : Nat → Nat} {n m i la off t1 t2 dp h0 N kk lim s v0 : Nat} {T T' : Nat → Nat} {R R' : List (Nat × Nat)} {v : Vt}
theorem factLine_ok {o : Nat} {OD : List (Nat × Nat)} (hla : isLa la) (hg : gpl σ = la) (hod : (OD = [] ∧ o = 5) ∨ (OD = [(3, o)] ∧ 1 ≤ o ∧ o ≤ 9)) (h8 : t1 < 8) (h : PE I X n m la 0 t1 t2 T i ((256, v0) :: (2, t1 + 1) :: (OD ++ ((59, 0) :: R')))) :
    ∃ I', mX2_readFact 282 (hk σ I L) = some (1, hk σ I' L) ∧ PE I' X n m la 0 (t1 + 1) t2 (updA (updA T (8 + t1) o) 1 (t1 + 1)) (i + (3 + OD.length)) R' ∧ I' (la + 1) = updA (I (la + 1)) t1 (nI o) ∧ (∀ x, x ≠ 282 → x ≠ la → x ≠ la + 1 → x ≠ la + 2 → I' x = I x) ∧ ∀ k, k ≠ 1 → I' la k = I la k := by
  have hgt := la_gt hla
  obtain ⟨sh1, sh2, rf6, rf7⟩ := isLa_sh (σ := σ) hla
  have p1 := h.nx hla
  obtain ⟨I2, x1, c1, ts1, x3, x4⟩ := new_ok (σ := σ) (L := L) p1.1 (by rw [hg]; exact hla) (by rw [hg]; exact p1.2.2.1) (v := t1 + 1) (by omega) (fun f hf => by omega) (fun k hk' => by omega) p1.2.1
  have p2 := p1.go hla c1 ts1 x3
  have i2 : CF2 I I2 := CF2.up.tr x3
  -- behind the odds
  have tail : ∀ (I3 : Nat → Nat → Int32) (j : Nat), CF2 I I3 → PE I3 X n m la 0 t1 t2 T j ((59, 0) :: R') → ∃ I', mX2_readFact_b69 282 (nI (t1 + 1)) (nI o) (hk σ I3 L) = some (1, hk σ I' L) ∧ PE I' X n m la 0 (t1 + 1) t2 (updA (updA T (8 + t1) o) 1 (t1 + 1)) (j + 1) R' ∧ I' (la + 1) = updA (I (la + 1)) t1 (nI o) ∧ (∀ x, x ≠ 282 → x ≠ la → x ≠ la + 1 → x ≠ la + 2 → I' x = I x) ∧ ∀ k, k ≠ 1 → I' la k = I la k := fun I3 j f3 p3 => by
    obtain ⟨I4, hI4⟩ : ∃ I4, I4 = rowUp (rowUp (rowUp I3 (la + 2) (updA (I3 (la + 2)) t1 (nI (t1 + 1)))) (la + 1) (updA (I3 (la + 1)) t1 (nI o))) la (updA (I3 la) 1 (nI (t1 + 1))) := ⟨_, rfl⟩
    have e1 : I3 la 1 = nI t1 := p3.2.2.1.2.2.1
    have s0 : (hpS (hk σ I3 L) la).1 = 1 + 1 := by rw [hpS_hk, SH_la0 hla]
    have ne : ∀ x, x ≠ la → x ≠ la + 1 → x ≠ la + 2 → I4 x = I3 x := fun x a b c => by rw [hI4, rowUp_ne _ _ a, rowUp_ne _ _ b, rowUp_ne _ _ c]
    have el : I4 la = updA (I3 la) 1 (nI (t1 + 1)) := by rw [hI4, rowUp_same]
    have e2' : I4 (la + 2) = updA (I3 (la + 2)) t1 (nI (t1 + 1)) := by rw [hI4, rowUp_ne _ _ (by omega), rowUp_ne _ _ (by omega), rowUp_same]
    have p4 : PE I4 X n m la 0 (t1 + 1) t2 (updA (updA T (8 + t1) o) 1 (t1 + 1)) j ((59, 0) :: R') := by
      have cn := p3.2.2.1
      have q1 := p3.set (k := 8 + t1) o (by omega) (by omega)
      have q2 := q1.set (k := 1) (t1 + 1) (by omega) (by omega)
      refine ⟨?_, p3.2.1, ⟨by omega, cn.2.1, by rw [el, updA_same], by rw [el, updA_ne _ _ (by omega)]; exact cn.2.2.2.1, fun f hf => ?_, fun k hk' => ?_⟩, ⟨by rw [el, updA_ne _ _ (by omega)]; exact q2.2.2.2.1.1, fun x hx => ?_⟩, q2.2.2.2.2⟩
      · rw [hI4]
        exact ((p3.1.row _ (by omega) (by omega)).row _ (by omega) (by omega)).row _ (by omega) (by omega)
      · rw [e2', updA_at]
        by_cases q : f = t1
        · rw [if_pos q, q]
        · rw [if_neg q]; exact cn.2.2.2.2.1 f (by omega)
      · have := cn.2.1
        rw [e2', updA_ne _ _ (by omega)]; exact cn.2.2.2.2.2 k hk'
      · rw [ne (la + 7) (by omega) (by omega) (by omega)]; exact q2.2.2.2.1.2 x hx
    obtain ⟨I5, e5, p5, f5⟩ := p4.semi (σ := σ) (L := L) hla
    refine ⟨I5, ?_, p5, ?_, fun x a b c d => ?_, fun k hk' => ?_⟩
    · unfold mX2_readFact_b69
      have g1 : ∀ (I' : Nat → Nat → Int32), gI 1 1 la (hk σ I' L) = some (I' la 1) := fun I' => gI_la hla 1
      rw [gDr, hg, gR_la hla, obind, rf7, gDr, hg, g1, obind, e1, put_nI (n := 13) (by rw [hpS_hk]; exact sh2) (by omega) (by omega), obind, setI_hk, hpI_hk', gDr, hg, gR_la hla, obind, rf6, gDr, hg, g1, obind, rowUp_ne (a := la + 2) (b := la) _ _ (by omega), e1, put_nI (n := 8) (by rw [hpS_hk]; exact sh1) (by omega) (by omega), obind, setI_hk, hpI_hk', rowUp_ne (a := la + 2) (b := la + 1) _ _ (by omega), gDr, hg, g1, obind, rowUp_ne (a := la + 1) (b := la) _ _ (by omega), rowUp_ne (a := la + 2) (b := la) _ _ (by omega), e1, nI_1, sI_la hla, obind, rowUp_ne (a := la + 1) (b := la) _ _ (by omega), rowUp_ne (a := la + 2) (b := la) _ _ (by omega), ← hI4]
      exact e5
    · rw [f5 _ (by omega), hI4, rowUp_ne _ _ (by omega), rowUp_same, f3 _ (by omega)]
    · rw [f5 x a, ne x b c d, f3 x a]
    · rw [f5 la (by omega), el, updA_ne _ _ hk', f3 la (by omega)]
  have pre : ∀ {o' : Option (Int32 × Hp)}, ((gI 2 6 282 (hk σ I2 L)).bind fun v7 => (mX2_nextKind 282 (hk σ I2 L)).bind fun v8 => if v8 = (3 : Int32) then (b2 (mX2_number 282 (1 : Int32) (9 : Int32) (hk σ I2 L)) fun v27 h28 => if v27 = 0 then some ((0 : Int32), h28) else (gI 2 6 282 h28).bind fun v29 => mX2_readFact_b69 282 v7 v29 h28) else mX2_readFact_b69 282 v7 (5 : Int32) (hk σ I2 L)) = o' → mX2_readFact 282 (hk σ I L) = o' := fun {o'} e => by
    unfold mX2_readFact
    rw [if_pos s282, gDr, hg, gI_la hla, obind, h.2.2.1.2.2.1, if_pos (show nI t1 < (8 : Int32) from nI_lt (b := 8) h8 (by omega)), gPI, obind, h.1.2.2.2.2.2.1, sI_ok s282, obind, setI_hk, hpI_hk', nI_1, x1, b2s, if_neg (by decide)]
    exact e
  rcases hod with ⟨rfl, rfl⟩ | ⟨rfl, o1, o9⟩
  · have p2 : PE I2 X n m la 0 t1 t2 T (i + 1 + 1) ((59, 0) :: R') := p2
    obtain ⟨I', e, r⟩ := tail I2 (i + 1 + 1) i2 p2
    refine ⟨I', pre ?_, r⟩
    rw [gPI, obind, x4, at_kind p2.1 p2.2.1, obind, hdk_c, if_neg (by decide)]
    exact e
  · obtain ⟨I3, a1, a2, a3, a4, a5⟩ := num_ok (σ := σ) (L := L) p2.1 p2.2.1 (lo := 1) (hi := 9) o1 o9 (by omega)
    have a1 : mX2_number 282 (1 : Int32) (9 : Int32) (hk σ I2 L) = some (1, hk σ I3 L) := a1
    have p3 := p2.go hla a2 a3 a4
    obtain ⟨I', e, r⟩ := tail I3 (i + 1 + 1 + 1) (i2.tr a4) p3
    refine ⟨I', pre ?_, r⟩
    rw [gPI, obind, x4, at_kind p2.1 p2.2.1, obind, show hdk ([(3, o)] ++ (59, 0) :: R') = 3 from rfl, if_pos (by rfl), a1, b2s, if_neg (by decide), gPI, obind, a5]
    exact e
/-- a FACT -/
theorem l_fact {o : Nat} {OD : List (Nat × Nat)} (hla : isLa la) (hg : gpl σ = la) (hs : s = 268 ∨ s = 275) (hod : (OD = [] ∧ o = 5) ∨ (OD = [(3, o)] ∧ 1 ≤ o ∧ o ≤ 9)) (h8 : T 1 < 8) (h : SV I L X n m la s T lim i ((256, v0) :: (2, T 1 + 1) :: (OD ++ ((59, 0) :: R')))) (hv : VW T lim v) : LQ σ I L X n m la s T (i + (3 + OD.length)) R' (v.1 + 1, v.2) (mX2_readFact 282 (hk σ I L)) := by
  have hla' : la = 112 ∨ la = 190 := hla
  obtain ⟨hp, hS, hD, hO⟩ := h
  have ho1 : 1 ≤ o := by rcases hod with ⟨_, q⟩ | ⟨_, q, _⟩ <;> omega
  have ho9 : o ≤ 9 := by rcases hod with ⟨_, q⟩ | ⟨_, _, q⟩ <;> omega
  have ht := h8
  obtain ⟨I', e1, p', f1, fx, fk⟩ := factLine_ok (σ := σ) (L := L) hla hg hod h8 hp
  obtain ⟨T', hT⟩ : ∃ T', T' = updA (updA T (8 + T 1) o) 1 (T 1 + 1) := ⟨_, rfl⟩
  rw [← hT] at p'
  have t1 : T' 1 = T 1 + 1 := by rw [hT, updA_same]
  have t8 : T' (8 + T 1) = o := by rw [hT, updA_ne _ _ (by omega), updA_same]
  have tn : ∀ j, j ≠ 1 → j ≠ 8 + T 1 → T' j = T j := fun j a b => by rw [hT, updA_ne _ _ a, updA_ne _ _ b]
  have g : GR T T' := ⟨by rw [tn 7 (by omega) (by omega)]; exact Nat.le_refl _, fun j h1 h2 => tn j (by omega) (by omega), fun e he => ⟨tn _ (by omega) (by omega), tn _ (by omega) (by omega)⟩⟩
  have em : may T' = may T := g.mayc hS (tn 3 (by omega) (by omega)) (fun k _ => tn _ (by omega) (by omega))
  have ef : fst0 T' = fst0 T := fst0_cg (tn 2 (by omega) (by omega)) (fun k _ => tn _ (by omega) (by omega))
  have pw : (2 : Nat) ^ T 1 ≤ 2 ^ (T 1 + 1) := Nat.pow_le_pow_right (by omega) (by omega)
  obtain ⟨⟨a1, a2, a3, a4, a5, a6, a7⟩, b, c, d, ee, ff, gq, hh, w, w1, w2⟩ := id hS
  obtain ⟨⟨d0, d3, d4, d5, dm⟩, dO, dk, ds, dp', dq, ⟨dj, d2⟩, dst⟩ := hD
  refine ⟨I', L, T', lim, e1, ⟨by rw [t1, tn 2 (by omega) (by omega)]; exact p', ⟨⟨?_, ?_, ?_, ?_, a5, ?_, ?_⟩, fun f hf => ?_, fun k hk' => ?_, fun k h1 h2 => ?_, fun p hp => ?_, fun k hk' => ?_, fun e he => ?_, fun s hs' => ?_, w, ?_, ?_⟩, ⟨⟨?_, ?_, ?_, ?_, ?_⟩, fun f hf => ?_, fun k hk' => ?_, fun k hk' => ?_, fun p hp => ?_, fun q hq => ?_, ⟨fun j h1 h2 => ?_, ?_⟩, fun k hk' => ?_⟩, hO⟩, ⟨by rw [t1, hv.1], by rw [tn 2 (by omega) (by omega)]; exact hv.2.1, by rw [tn 3 (by omega) (by omega)]; exact hv.2.2.1, by rw [tn 4 (by omega) (by omega)]; exact hv.2.2.2.1, hv.2.2.2.2.1, fun k hk' => by rw [tn (51 + k) (by omega) (by omega)]; exact hv.2.2.2.2.2.1 k hk', fun k hk' => by rw [tn (61 + k) (by omega) (by omega)]; exact hv.2.2.2.2.2.2.1 k hk', fun w => by rw [em]; exact hv.2.2.2.2.2.2.2 w⟩, tn 0 (by omega) (by omega), ⟨fun x a b c d => fx x (by omega) (by omega) (by omega) (by omega), fun _ _ _ _ => rfl⟩⟩
  · rw [t1]; omega
  · rw [tn 2 (by omega) (by omega)]; exact a2
  · rw [tn 3 (by omega) (by omega)]; exact a3
  · rw [tn 4 (by omega) (by omega)]; exact a4
  · rw [tn 5 (by omega) (by omega)]; exact a6
  · rw [tn 6 (by omega) (by omega), tn 3 (by omega) (by omega), tn 4 (by omega) (by omega), tn 2 (by omega) (by omega), ndT_cg (fun k _ => tn _ (by omega) (by omega))]; exact a7
  · rw [t1] at hf
    by_cases q : f = T 1
    · rw [q, t8]; exact ⟨ho1, ho9⟩
    · rw [tn (8 + f) (by omega) (by omega)]; exact b f (by omega)
  · rw [tn 2 (by omega) (by omega)] at hk'
    obtain ⟨c1, c2, c3, c4, c5, c6, c7⟩ := c k hk'
    simp (disch := omega) only [tn]
    rw [t1]
    exact ⟨c1, c2, c3, c4, by omega, c6, c7⟩
  · rw [tn 2 (by omega) (by omega)] at h1
    simp (disch := omega) only [tn]
    exact d k h1 h2
  · rw [tn 4 (by omega) (by omega)] at hp
    simp (disch := omega) only [tn]
    exact ee p hp
  · rw [tn 3 (by omega) (by omega)] at hk'
    simp (disch := omega) only [tn]
    exact ff k hk'
  · rw [tn 6 (by omega) (by omega)] at he
    rw [(g.2.2 e he).1, (g.2.2 e he).2, tn 7 (by omega) (by omega)]
    exact ⟨g.wfc (hS.ew he).2 (hS.ew he).1, (hS.ew he).2⟩
  · rw [tn 7 (by omega) (by omega)] at hs'
    rw [g.ct hs', t1]
    intro h
    have := hh s hs' h
    omega
  · rw [t1]; omega
  · rw [em]; exact w2
  · rw [fk 0 (by omega), tn 0 (by omega) (by omega)]; exact d0
  · rw [fk 3 (by omega), tn 3 (by omega) (by omega)]; exact d3
  · rw [fk 4 (by omega), tn 4 (by omega) (by omega)]; exact d4
  · rw [fk 5 (by omega)]; exact d5
  · rw [em]; exact dm
  · rw [t1] at hf
    rw [f1, updA_at]
    by_cases q : f = T 1
    · rw [if_pos q, q, t8]
    · rw [if_neg q, tn (8 + f) (by omega) (by omega)]; exact dO f (by omega)
  · rw [tn 2 (by omega) (by omega)] at hk'
    simp (disch := omega) only [tn, fx, ef]
    exact dk k hk'
  · simp (disch := omega) only [tn, fx]
    exact ds k hk'
  · rw [tn 4 (by omega) (by omega)] at hp
    simp (disch := omega) only [tn, fx]
    exact dp' p hp
  · exact g.slc (dq q hq) (by rw [fx (la + 8) (by omega) (by omega) (by omega) (by omega)]) (by rw [fx (la + 9) (by omega) (by omega) (by omega) (by omega)])
  · rw [fx s (by omega) (by omega) (by omega) (by omega)]; exact dj j h1 h2
  · rw [fx s (by omega) (by omega) (by omega) (by omega), tn 2 (by omega) (by omega)]; exact d2
  · rw [tn 2 (by omega) (by omega)] at hk'
    simp (disch := omega) only [tn, fx]
    exact dst k hk'
/-- limit -/
theorem l_limit {w' : Nat} (hla : isLa la) (hg : gpl σ = la) (hs : s = 268 ∨ s = 275) (hv1 : 1 ≤ w') (hv9 : w' ≤ 999) (h : SV I L X n m la s T 0 i ((265, v0) :: (3, w') :: (59, 0) :: R')) (hv : VW T 0 v) : LQ σ I L X n m la s T (i + 3) R' (v.1, v.2.1, v.2.2.1, v.2.2.2.1, w', v.2.2.2.2.2) (mX2_readLimit 282 (hk σ I L)) := by
  have hla' : la = 112 ∨ la = 190 := hla
  have hgt := la_gt hla
  obtain ⟨hp, hS, hD, hO⟩ := h
  have p1 := hp.nx hla
  obtain ⟨I1, a1, a2, a3, a4, a5⟩ := num_ok (σ := σ) (L := L) p1.1 p1.2.1 (lo := 1) (hi := 999) hv1 hv9 (by omega)
  have a1 : mX2_number 282 (1 : Int32) (999 : Int32) (hk σ (rowUp I 282 (updA (I 282) 5 (nI (i + 1)))) L) = some (1, hk σ I1 L) := a1
  have p2 := p1.go hla a2 a3 a4
  have p3 := p2.fld hla (k := 5) (nI w') (by omega) (by omega) (by omega)
  obtain ⟨I', e5, p4, fe⟩ := p3.semi (σ := σ) (L := L) hla
  have p' := p4.set (k := 5) w' (by omega) (by omega)
  have e1 : mX2_readLimit 282 (hk σ I L) = some (1, hk σ I' L) := by
    unfold mX2_readLimit
    rw [if_pos s282, gDr, hg, gI_la hla, obind, hD.1.2.2.2.1, if_pos (by rfl), gPI, obind, hp.1.2.2.2.2.2.1, sI_ok s282, obind, setI_hk, hpI_hk', nI_1, a1, b2s, if_neg (by decide), gDr, hg, gPI, obind, a5, sI_la hla, obind]
    exact e5
  have f5 : I' la 5 = nI w' := by rw [fe la (by omega), rowUp_same, updA_same]
  have fx : ∀ x, x ≠ 282 → x ≠ la → I' x = I x := fun x a b => by rw [fe x a, rowUp_ne _ _ b, a4 x a, rowUp_ne _ _ a]
  have fk : ∀ k, k ≠ 5 → I' la k = I la k := fun k hk' => by rw [fe la (by omega), rowUp_same, updA_ne _ _ hk', a4 la (by omega), rowUp_ne _ _ (by omega)]
  obtain ⟨T', hT⟩ : ∃ T', T' = updA T 5 w' := ⟨_, rfl⟩
  rw [← hT] at p'
  have t5 : T' 5 = w' := by rw [hT, updA_same]
  have tn : ∀ j, j ≠ 5 → T' j = T j := fun j a => by rw [hT, updA_ne _ _ a]
  have g : GR T T' := ⟨by rw [tn 7 (by omega)]; exact Nat.le_refl _, fun j h1 h2 => tn j (by omega), fun e he => ⟨tn _ (by omega), tn _ (by omega)⟩⟩
  have em : may T' = may T := g.mayc hS (tn 3 (by omega)) (fun k _ => tn _ (by omega))
  have ef : fst0 T' = fst0 T := fst0_cg (tn 2 (by omega)) (fun k _ => tn _ (by omega))
  obtain ⟨⟨a1, a2, a3, a4, a5, a6, a7⟩, b, c, d, ee, ff, gq, hh, w, w1, w2⟩ := id hS
  obtain ⟨⟨d0, d3, d4, d5, dm⟩, dO, dk, ds, dp', dq, ⟨dj, d2⟩, dst⟩ := hD
  refine ⟨I', L, T', w', e1, ⟨by rw [tn 1 (by omega), tn 2 (by omega)]; exact p', ⟨⟨?_, ?_, ?_, ?_, hv9, ?_, ?_⟩, fun f hf => ?_, fun k hk' => ?_, fun k h1 h2 => ?_, fun p hp => ?_, fun k hk' => ?_, fun e he => ?_, fun s hs' => ?_, w, ?_, ?_⟩, ⟨⟨?_, ?_, ?_, f5, ?_⟩, fun f hf => ?_, fun k hk' => ?_, fun k hk' => ?_, fun p hp => ?_, fun q hq => ?_, ⟨fun j h1 h2 => ?_, ?_⟩, fun k hk' => ?_⟩, hO⟩, ⟨by rw [tn 1 (by omega)]; exact hv.1, by rw [tn 2 (by omega)]; exact hv.2.1, by rw [tn 3 (by omega)]; exact hv.2.2.1, by rw [tn 4 (by omega)]; exact hv.2.2.2.1, rfl, fun k hk' => by rw [tn (51 + k) (by omega)]; exact hv.2.2.2.2.2.1 k hk', fun k hk' => by rw [tn (61 + k) (by omega)]; exact hv.2.2.2.2.2.2.1 k hk', fun w => by rw [em]; exact hv.2.2.2.2.2.2.2 w⟩, tn 0 (by omega), ⟨fun x a b c d => fx x (by omega) (by omega), fun _ _ _ _ => rfl⟩⟩
  · rw [tn 1 (by omega)]; omega
  · rw [tn 2 (by omega)]; exact a2
  · rw [tn 3 (by omega)]; exact a3
  · rw [tn 4 (by omega)]; exact a4
  · rw [t5, if_neg (by omega)]
  · rw [tn 6 (by omega), tn 3 (by omega), tn 4 (by omega), tn 2 (by omega), ndT_cg (fun k _ => tn _ (by omega))]; exact a7
  · rw [tn 1 (by omega)] at hf
    simp (disch := omega) only [tn]
    exact b f hf
  · rw [tn 2 (by omega)] at hk'
    simp (disch := omega) only [tn]
    exact c k hk'
  · rw [tn 2 (by omega)] at h1
    simp (disch := omega) only [tn]
    exact d k h1 h2
  · rw [tn 4 (by omega)] at hp
    simp (disch := omega) only [tn]
    exact ee p hp
  · rw [tn 3 (by omega)] at hk'
    simp (disch := omega) only [tn]
    exact ff k hk'
  · rw [tn 6 (by omega)] at he
    rw [(g.2.2 e he).1, (g.2.2 e he).2, tn 7 (by omega)]
    exact ⟨g.wfc (hS.ew he).2 (hS.ew he).1, (hS.ew he).2⟩
  · rw [tn 7 (by omega)] at hs'
    rw [g.ct hs', tn 1 (by omega)]
    exact hh s hs'
  · rw [tn 1 (by omega)]; omega
  · rw [em]; exact w2
  · rw [fk 0 (by omega), tn 0 (by omega)]; exact d0
  · rw [fk 3 (by omega), tn 3 (by omega)]; exact d3
  · rw [fk 4 (by omega), tn 4 (by omega)]; exact d4
  · rw [em]; exact dm
  · rw [tn 1 (by omega)] at hf
    simp (disch := omega) only [tn, fx]
    exact dO f hf
  · rw [tn 2 (by omega)] at hk'
    simp (disch := omega) only [tn, fx, ef]
    exact dk k hk'
  · simp (disch := omega) only [tn, fx]
    exact ds k hk'
  · rw [tn 4 (by omega)] at hp
    simp (disch := omega) only [tn, fx]
    exact dp' p hp
  · exact g.slc (dq q hq) (by rw [fx (la + 8) (by omega) (by omega)]) (by rw [fx (la + 9) (by omega) (by omega)])
  · rw [fx s (by omega) (by omega)]; exact dj j h1 h2
  · rw [fx s (by omega) (by omega), tn 2 (by omega)]; exact d2
  · rw [tn 2 (by omega)] at hk'
    simp (disch := omega) only [tn, fx]
    exact dst k hk'
end H1
