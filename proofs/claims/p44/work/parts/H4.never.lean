/-! LINES of a suit: what can't be -/
section H4
variable {σ : Sg} {I I' J I1 I2 I3 Ja : Nat → Nat → Int32} {L L' L1 L2 : Nat → Nat → Int64} {X : Nat → Nat} {n m i la off t1 t2 dp h0 N kk lim s v0 : Nat} {T T' : Nat → Nat} {R R' : List (Nat × Nat)} {v : Vt}
theorem may_mod {t : Nat} (h3 : ∀ k, k < T 3 → T (117 + T (78 + k)) ≤ T 7) (hl : ∀ s, s < T 7 → cT T s < 100 → cT T s < t) (w : Nat) : may T w = may T (w % 2 ^ t) := by
  unfold may
  refine allB_congr fun k hk' => ?_
  have h := h3 k hk'
  have : ev T (T (78 + k)) w = ev T (T (78 + k)) (w % 2 ^ t) := by
    unfold ev evP
    rw [runV_cg (q := qw w) (q' := qw (w % 2 ^ t)) (cd := cT T) (cd' := cT T) (a := T (84 + T (78 + k))) (m := T (117 + T (78 + k)) - T (84 + T (78 + k))) (tb := t) (fun _ _ => rfl) (fun f hf => by unfold qw; rw [Nat.testBit_mod_two_pow, decide_eq_true hf, Bool.true_and]) (fun s hs h => hl _ (by omega) h) _ (Nat.le_refl _)]
  rw [this]
theorem may_any {t : Nat} (ht : t ≤ 8) (h3 : ∀ k, k < T 3 → T (117 + T (78 + k)) ≤ T 7) (hl : ∀ s, s < T 7 → cT T s < 100 → cT T s < t) : anyB (may T) 256 = anyB (may T) (2 ^ t) := by
  have p := ev_lt ht
  rw [Bool.eq_iff_iff, anyB_iff, anyB_iff]
  constructor
  · rintro ⟨w, _, h⟩
    exact ⟨w % 2 ^ t, Nat.mod_lt _ (Nat.two_pow_pos t), by rw [← may_mod h3 hl]; exact h⟩
  · rintro ⟨w, h1, h2⟩
    exact ⟨w, by omega, h2⟩
theorem gSee {ρ : Type} (f : Nat → Option ρ) : (gR 2 1 282 (hk σ I L)).bind f = f 108 := rfl
theorem gSp {ρ : Type} (f : Nat → Option ρ) : (gR 2 2 282 (hk σ I L)).bind f = f 283 := rfl
theorem wSpa : isW (hk σ I L) 283 284 := ⟨rfl, rfl, rfl⟩
/-- a line that tells what can't be -/
theorem l_never {d : Nat} {Tt : Tr d} (hla : isLa la) (hg : gpl σ = la) (hs : s = 268 ∨ s = 275) (hd : d ≤ 2) (ok : okT (T 1) d Tt) (q6 : T 3 < 6) (hw : ∃ w, w < 2 ^ T 1 ∧ v.2.2.2.2.2.2.2 w = true ∧ hT d Tt w = false) (h : SV I L X n m la s T lim i ((257, v0) :: (kA d Tt ++ ((59, 0) :: R')))) (hv : VW T lim v) :
    LQ σ I L X n m la s T (i + (2 + (kA d Tt).length)) R' (v.1, v.2.1, v.2.2.1 + 1, v.2.2.2.1, v.2.2.2.2.1, v.2.2.2.2.2.1, v.2.2.2.2.2.2.1, fun w => v.2.2.2.2.2.2.2 w && !hT d Tt w) (mX2_readNever 282 (hk σ I L)) := by
  have hla' : la = 112 ∨ la = 190 := hla
  obtain ⟨hp, hS, hD, hO⟩ := h
  have h6 : T 6 ≤ 32 := by have := hS.t6; have := hS.1.2.1; omega
  obtain ⟨⟨a1, a2, a3, a4, a5, a6, a7⟩, b, c, d', ee, ff, gq, hh, w0, w01, w02⟩ := id hS
  have k13 : I la 13 = nI (T 7) := by have := hp.2.2.2.1.1; rw [Nat.zero_add] at this; exact this
  have p1 := hp.nx hla
  obtain ⟨I2, T2, x1, p2, t6, t84, t117, tn, rg, sm, f2⟩ := expr_ok (σ := σ) (L := L) hla hg (by omega) hS.1.1 hd ok p1 (by show badE 59 = false; decide) h6
  obtain ⟨I3, v1, vc, vt, v3, v4⟩ := exp_ok (σ := σ) (L := L) p2.1 p2.2.1
  have p3 := p2.go hla vc vt v3
  have rge := rg.1.1
  have i2n := p3.1.le.2
  have T2n := p3.2.2.2.2
  have f2' : ∀ x, x ≠ 282 → x ≠ la → x ≠ la + 7 → I2 x = I x := fun x a b c => by rw [f2.1 x a b c, rowUp_ne _ _ a]
  have f2k : ∀ k, k ≠ 13 → I2 la k = I la k := fun k hk' => by rw [f2.2.1 k hk', rowUp_ne _ _ (by omega)]
  have k3 : T2 3 = T 3 := tn 3 (by omega) (by omega) (by omega) (by omega) (by omega)
  have q13 : I3 la 13 = nI (T2 7) := by have := p3.2.2.2.1.1; rw [Nat.zero_add] at this; exact this
  obtain ⟨T', hTq⟩ : ∃ T', T' = updA (updA T2 (78 + T 3) (T 6)) 3 (T 3 + 1) := ⟨_, rfl⟩
  have s2 := (p3.set (k := 78 + T 3) (T 6) (by omega) (by omega)).set (k := 3) (T 3 + 1) (by omega) (by omega)
  rw [← hTq] at s2
  have u3 : T' 3 = T 3 + 1 := by rw [hTq, updA_same]
  have u78 : T' (78 + T 3) = T 6 := by rw [hTq, updA_ne _ _ (by omega), updA_same]
  have un : ∀ j, j ≠ 3 → j ≠ 78 + T 3 → T' j = T2 j := fun j a b => by rw [hTq, updA_ne _ _ a, updA_ne _ _ b]
  have u7 : T' 7 = T2 7 := un 7 (by omega) (by omega)
  have ucT : cT T' = cT T2 := by funext j; exact un _ (by omega) (by omega)
  have g : GR T T' := ⟨by rw [u7]; exact rge, fun j h1 h2 => by rw [un j (by omega) (by omega)]; exact tn j (by omega) (by omega) (by omega) (by omega) h2, fun e he => ⟨by rw [un _ (by omega) (by omega)]; exact tn _ (by omega) (by omega) (by omega) (by omega) (by omega), by rw [un _ (by omega) (by omega)]; exact tn _ (by omega) (by omega) (by omega) (by omega) (by omega)⟩⟩
  have lo : ∀ j, j < 84 → j ≠ 3 → j ≠ 7 → j ≠ 6 → j ≠ 78 + T 3 → T' j = T j := fun j a b c d e => by rw [un j b e]; exact tn j c d (by omega) (by omega) (by omega)
  have w1 : T' 1 = T 1 := lo 1 (by omega) (by omega) (by omega) (by omega) (by omega)
  have w2 : T' 2 = T 2 := lo 2 (by omega) (by omega) (by omega) (by omega) (by omega)
  have w4 : T' 4 = T 4 := lo 4 (by omega) (by omega) (by omega) (by omega) (by omega)
  have w6 : T' 6 = T 6 + 1 := by rw [un 6 (by omega) (by omega), t6]
  have w84 : T' (84 + T 6) = T 7 := by rw [un _ (by omega) (by omega), t84]
  have w117 : T' (117 + T 6) = T2 7 := by rw [un _ (by omega) (by omega), t117]
  have ewf : ∀ e, e < T' 6 → wfE (cT T') (T' (84 + e)) (T' (117 + e)) ∧ T' (117 + e) ≤ T' 7 := fun e he => by
    rw [w6] at he
    by_cases q : e = T 6
    · rw [q, w84, w117, ucT, u7]; exact ⟨rg.wf, Nat.le_refl _⟩
    · have he' : e < T 6 := by omega
      rw [(g.2.2 e he').1, (g.2.2 e he').2, u7]
      exact ⟨g.wfc (hS.ew he').2 (hS.ew he').1, Nat.le_trans (hS.ew he').2 rge⟩
  have nv : ∀ k, k < T' 3 → T' (78 + k) < T' 6 := fun k hk' => by
    rw [u3] at hk'
    rw [w6]
    by_cases q : k = T 3
    · rw [q, u78]; omega
    · rw [lo (78 + k) (by omega) (by omega) (by omega) (by omega) (by omega)]
      have := ff k (by omega)
      omega
  have lb : ∀ s, s < T' 7 → cT T' s < 100 → cT T' s < T 1 := fun s hs' => by
    by_cases q : s < T 7
    · rw [g.ct q]; exact hh s q
    · rw [ucT]; rw [u7] at hs'; exact rg.2 s (by omega) hs'
  have em : may T' = fun w => may T w && !(evP (qw w) (cT T2) (T 7) (T2 7)).1 := by
    funext w
    have e1 : ev T' (T' (78 + T 3)) w = (evP (qw w) (cT T2) (T 7) (T2 7)).1 := by unfold ev; rw [u78, w84, w117, ucT]
    have e2 : allB (fun k => !ev T' (T' (78 + k)) w) (T 3) = allB (fun k => !ev T (T (78 + k)) w) (T 3) := allB_congr fun k hk' => by
      have h6 := ff k hk'
      rw [lo (78 + k) (by omega) (by omega) (by omega) (by omega) (by omega), g.evc h6 (hS.ew h6).2]
    unfold may
    rw [u3]
    show (allB (fun k => !ev T' (T' (78 + k)) w) (T 3) && !ev T' (T' (78 + T 3)) w) = _
    rw [e1, e2]
  have ma := may_any (T := T') (t := T 1) a1 (fun k hk' => (ewf _ (nv k hk')).2) lb
  -- the class works it out
  obtain ⟨hh', y', n', z', r', te, tr⟩ := tab_ok (σ := σ) (I := I3) (L := L) hO (la + 7) (SH_la7 hla) (by omega) (cT T2) (T 7) (T2 7) rge (by omega) rg.wf.2.1 (fun j h1 h2 => by
    have := p3.2.2.2.1.2 j h2
    rw [Nat.zero_add] at this
    exact this) 283 284 (fun _ _ => wSpa) (by omega) (by omega) (by omega) (by omega)
  have tr := tr (by rw [rg.wf.2.2]; exact Nat.le_refl _)
  obtain ⟨I4, hI4⟩ : ∃ I4, I4 = rowUp I3 108 hh' := ⟨_, rfl⟩
  obtain ⟨L4, hL4⟩ : ∃ L4, L4 = rowUp (rowUp (rowUp (rowUp L 284 r') 109 y') 110 n') 111 z' := ⟨_, rfl⟩
  have te : mX4_tabulate 108 (la + 7) (nI (T 7)) (nI (T2 7)) 283 (hk σ I3 L) = some (hk σ I4 L4) := by rw [hI4, hL4]; exact te
  have lx : ∀ x, (x < 109 ∨ 111 < x) → x ≠ 284 → L4 x = L x := fun x a b => by rw [hL4, rowUp_ne _ _ (by omega), rowUp_ne _ _ (by omega), rowUp_ne _ _ (by omega), rowUp_ne _ _ b]
  have l284 : L4 284 = r' := by rw [hL4, rowUp_ne _ _ (by omega), rowUp_ne _ _ (by omega), rowUp_ne _ _ (by omega), rowUp_same]
  obtain ⟨r2, me, mr⟩ := minus_ok (h := hk σ I4 L4) (f := may T) (g := fun w => (evP (qw w) (cT T2) (T 7) (T2 7)).1) (wPos (σ := σ) (I := I4) (L := L4) hla) wSpa (by omega) (by show Rw (L4 (la + 12)) _; rw [lx _ (by omega) (by omega)]; exact hD.1.2.2.2.2) (by show Rw (L4 284) _; rw [l284]; exact tr)
  rw [setL_hk] at me
  rw [← em] at mr
  have i4 : ∀ x, x ≠ 282 → x ≠ la → x ≠ la + 7 → x ≠ 108 → I4 x = I x := fun x a b c d => by rw [hI4, rowUp_ne _ _ d, v3 x a, f2' x a b c]
  have i4k : ∀ k, k ≠ 13 → I4 la k = I la k := fun k hk' => by rw [hI4, rowUp_ne _ _ (by omega), v3 _ (by omega), f2k k hk']
  have i43 : I4 la 13 = nI (T2 7) := by rw [hI4, rowUp_ne _ _ (by omega), q13]
  obtain ⟨I5, hI5⟩ : ∃ I5, I5 = rowUp I4 la (updA (I4 la) 3 (nI (T 3 + 1))) := ⟨_, rfl⟩
  have ie : mX10_isEmpty (la + 11) (hk σ I5 (rowUp L4 (la + 12) r2)) = some (bI (!anyB (may T') 256)) := isEmpty_ok (wPos (σ := σ) (I := I5) hla) (by show Rw ((rowUp L4 (la + 12) r2) (la + 12)) _; rw [rowUp_same]; exact mr)
  have fs : ∀ x, x ≠ 282 → x ≠ la → x ≠ la + 7 → x ≠ 108 → I5 x = I x := fun x a b c d => by rw [hI5, rowUp_ne _ _ b, i4 x a b c d]
  have fsk : ∀ k, k ≠ 13 → k ≠ 3 → I5 la k = I la k := fun k a b => by rw [hI5, rowUp_same, updA_ne _ _ b, i4k k a]
  have fL : ∀ x, (x < 109 ∨ 111 < x) → x ≠ 284 → x ≠ la + 12 → rowUp L4 (la + 12) r2 x = L x := fun x a b c => by rw [rowUp_ne _ _ c, lx x a b]

  have em' : ∀ w, may T' w = (may T w && !hT d Tt w) := fun w => by
    rw [em]
    show (may T w && !(evP (qw w) (cT T2) (T 7) (T2 7)).1) = _
    rw [sm.ev]
  have hb : anyB (may T') (2 ^ T 1) = true := by
    obtain ⟨w, k1, k2, k3⟩ := hw
    exact anyB_iff.mpr ⟨w, k1, by rw [em', hv.2.2.2.2.2.2.2 w, k2, k3]; rfl⟩
  have e1 : mX2_readNever 282 (hk σ I L) = some (1, hk σ I5 (rowUp L4 (la + 12) r2)) := by
    have v1 : mX2_expect 282 (59 : Int32) (hk σ I2 L) = some (1, hk σ I3 L) := v1
    unfold mX2_readNever
    rw [if_pos s282, gDr, hg, gI_la hla, obind, hD.1.2.1, if_pos (show nI (T 3) < (6 : Int32) from nI_lt (b := 6) q6 (by omega)), gPI, obind, hp.1.2.2.2.2.2.1, gDr, hg, gI_la hla, obind, k13, obind, sI_ok s282, obind, setI_hk, hpI_hk', nI_1, x1, b2s, if_neg (show ¬ (1 : Int32) = 0 by decide), v1, b2s, if_neg (show ¬ (1 : Int32) = 0 by decide), gSee, gDr, hg, gR_la hla, obind, RF_la_12 σ hla, gDr, hg, gI_la hla, obind, q13, gSp, te, obind, gDr, hg, gR_la hla, obind, RF_la_17 σ hla, gSp, me, obind, gDr, hg, gI_la hla, obind, i4k 3 (by omega), hD.1.2.1, nI_1, sI_la hla, obind, ← hI5, gDr, hg, gR_la hla, obind, RF_la_17 σ hla, ie, obind, ma, hb]
    rfl
  have p5 : PE I5 X n m la 0 (T 1) (T 2) T' (i + (2 + (kA d Tt).length)) R' := by
    have sQ := s2.irow (x := 108) hh' (by omega) (by omega) (by omega) (by omega) (by omega)
    rw [← hI4] at sQ
    have sR := sQ.fld hla (k := 3) (nI (T 3 + 1)) (by omega) (by omega) (by omega)
    rw [← hI5, show i + 1 + (kA d Tt).length + 1 = i + (2 + (kA d Tt).length) by omega] at sR
    exact sR
  obtain ⟨⟨d0, d3, d4, d5, dm⟩, dO, dk, ds, dp', dq, ⟨dj, d2⟩, dst⟩ := hD
  have ef : fst0 T' = fst0 T := fst0_cg w2 (fun k _ => lo _ (by omega) (by omega) (by omega) (by omega) (by omega))
  obtain ⟨wx, wx1, wx2⟩ := anyB_iff.mp hb
  refine ⟨I5, rowUp L4 (la + 12) r2, T', lim, e1, ⟨by rw [w1, w2]; exact p5, ⟨⟨by omega, by omega, by omega, by omega, a5, ?_, ?_⟩, fun f hf => ?_, fun k hk' => ?_, fun k h1 h2 => ?_, fun p hp => ?_, nv, ewf, by rw [w1]; exact lb, wx, by rw [w1]; exact wx1, wx2⟩, ⟨⟨?_, ?_, ?_, ?_, ?_⟩, fun f hf => ?_, fun k hk' => ?_, fun k hk' => ?_, fun p hp => ?_, fun q hq => ?_, ⟨fun j h1 h2 => ?_, ?_⟩, fun k hk' => ?_⟩, fun k hk' => by rw [fL 2 (by omega) (by omega) (by omega)]; exact hO k hk'⟩, ⟨by rw [w1]; exact hv.1, by rw [w2]; exact hv.2.1, by rw [u3, hv.2.2.1], by rw [w4]; exact hv.2.2.2.1, hv.2.2.2.2.1, fun k hk' => by rw [lo (51 + k) (by omega) (by omega) (by omega) (by omega) (by omega)]; exact hv.2.2.2.2.2.1 k hk', fun k hk' => by rw [lo (61 + k) (by omega) (by omega) (by omega) (by omega) (by omega)]; exact hv.2.2.2.2.2.2.1 k hk', fun w => by rw [em', hv.2.2.2.2.2.2.2 w]⟩, lo 0 (by omega) (by omega) (by omega) (by omega) (by omega), ⟨fun x a b c d => fs x a (by omega) (by omega) b, fL⟩⟩
  · rw [lo 5 (by omega) (by omega) (by omega) (by omega) (by omega)]; exact a6
  · rw [w6, u3, w4, w2, ndT_cg (T := T) (T' := T') (fun k _ => lo _ (by omega) (by omega) (by omega) (by omega) (by omega))]; omega
  · rw [w1] at hf
    rw [lo (8 + f) (by omega) (by omega) (by omega) (by omega) (by omega)]; exact b f hf
  · rw [w2] at hk'
    obtain ⟨c1, c2, c3, c4, c5, c6, c7⟩ := c k hk'
    refine ⟨?_, ?_, ?_, fun i hi' => ?_, ?_, ?_, ?_⟩
    · rw [lo (16 + k) (by omega) (by omega) (by omega) (by omega) (by omega)]; exact c1
    · rw [lo (21 + k) (by omega) (by omega) (by omega) (by omega) (by omega)]; exact c2
    · rw [lo (26 + k) (by omega) (by omega) (by omega) (by omega) (by omega)]; exact c3
    · rw [lo (26 + k) (by omega) (by omega) (by omega) (by omega) (by omega)] at hi'
      rw [lo (31 + 4 * k + i) (by omega) (by omega) (by omega) (by omega) (by omega), w6]
      have := c4 i hi'
      omega
    · rw [lo (51 + k) (by omega) (by omega) (by omega) (by omega) (by omega), w1]; exact c5
    · rw [lo (51 + k) (by omega) (by omega) (by omega) (by omega) (by omega), lo (56 + k) (by omega) (by omega) (by omega) (by omega) (by omega)]; exact c6
    · rw [lo (61 + k) (by omega) (by omega) (by omega) (by omega) (by omega), w2]; exact c7
  · rw [w2] at h1
    rw [lo (51 + k) (by omega) (by omega) (by omega) (by omega) (by omega), lo (56 + k) (by omega) (by omega) (by omega) (by omega) (by omega), lo (61 + k) (by omega) (by omega) (by omega) (by omega) (by omega)]
    exact d' k h1 h2
  · rw [w4] at hp
    rw [lo (66 + p) (by omega) (by omega) (by omega) (by omega) (by omega), lo (72 + p) (by omega) (by omega) (by omega) (by omega) (by omega), w2, w6]
    have := ee p hp
    omega
  · rw [fsk 0 (by omega) (by omega), lo 0 (by omega) (by omega) (by omega) (by omega) (by omega)]; exact d0
  · rw [hI5, rowUp_same, updA_same, u3]
  · rw [fsk 4 (by omega) (by omega), w4]; exact d4
  · rw [fsk 5 (by omega) (by omega)]; exact d5
  · rw [rowUp_same]; exact mr
  · rw [w1] at hf
    rw [fs (la + 1) (by omega) (by omega) (by omega) (by omega), lo (8 + f) (by omega) (by omega) (by omega) (by omega) (by omega)]
    exact dO f hf
  · rw [w2] at hk'
    obtain ⟨k1, k2, k3⟩ := dk k hk'
    have c3 := (c k hk').2.2.1
    refine ⟨?_, ?_, fun i hi' => ?_⟩
    · rw [fs (la + 3) (by omega) (by omega) (by omega) (by omega), lo (26 + k) (by omega) (by omega) (by omega) (by omega) (by omega)]; exact k1
    · rw [fs (la + 6) (by omega) (by omega) (by omega) (by omega), ef]; exact k2
    · rw [lo (26 + k) (by omega) (by omega) (by omega) (by omega) (by omega)] at hi'
      have c4 := (c k hk').2.2.2.1 i hi'
      rw [lo (31 + 4 * k + i) (by omega) (by omega) (by omega) (by omega) (by omega), (g.2.2 _ c4).1, (g.2.2 _ c4).2, fs (la + 8) (by omega) (by omega) (by omega) (by omega), fs (la + 9) (by omega) (by omega) (by omega) (by omega)]
      exact k3 i hi'
  · rw [fs (la + 5) (by omega) (by omega) (by omega) (by omega), lo (61 + k) (by omega) (by omega) (by omega) (by omega) (by omega)]
    exact ds k hk'
  · rw [w4] at hp
    have c4 := (ee p hp).2
    rw [fs (la + 4) (by omega) (by omega) (by omega) (by omega), fs (la + 8) (by omega) (by omega) (by omega) (by omega), fs (la + 9) (by omega) (by omega) (by omega) (by omega), lo (66 + p) (by omega) (by omega) (by omega) (by omega) (by omega), lo (72 + p) (by omega) (by omega) (by omega) (by omega) (by omega), (g.2.2 _ c4).1, (g.2.2 _ c4).2]
    exact dp' p hp
  · exact g.slc (dq q hq) (by rw [fs (la + 8) (by omega) (by omega) (by omega) (by omega)]) (by rw [fs (la + 9) (by omega) (by omega) (by omega) (by omega)])
  · rw [fs s (by omega) (by omega) (by omega) (by omega)]; exact dj j h1 h2
  · rw [fs s (by omega) (by omega) (by omega) (by omega), w2]; exact d2
  · rw [w2] at hk'
    rw [fs (s + 1) (by omega) (by omega) (by omega) (by omega), fs (s + 2) (by omega) (by omega) (by omega) (by omega), fs (s + 3) (by omega) (by omega) (by omega) (by omega), fs (s + 4) (by omega) (by omega) (by omega) (by omega), fs (s + 5) (by omega) (by omega) (by omega) (by omega), fs (s + 6) (by omega) (by omega) (by omega) (by omega), lo (16 + k) (by omega) (by omega) (by omega) (by omega) (by omega), lo (21 + k) (by omega) (by omega) (by omega) (by omega) (by omega), lo (51 + k) (by omega) (by omega) (by omega) (by omega) (by omega), lo (56 + k) (by omega) (by omega) (by omega) (by omega) (by omega)]
    exact dst k hk'

end H4
