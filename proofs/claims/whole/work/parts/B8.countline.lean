section CountLine
variable {σ τ : Sg} {I I' J J' I1 I2 I3 Ja : Nat → Nat → Int32} {L L' M M' L1 L2 : Nat → Nat → Int64} {X : Nat → Nat} {n m i i2 la off t1 t2 fl pl dp h0 N kk lim s k b j w r : Nat} {W : Nat → List Nat} {T T' : Nat → Nat}
theorem LQ.t0 {cls : Option (Int32 × Hp)} {mdl : Option Hp} (h : LQ σ τ I J L M X n m i la s T' cls mdl) (e : T' 0 = T 0) : LQ σ τ I J L M X n m i la s T cls mdl := by
  rcases h with ⟨a1, a2, a3, a4, a5, a6, a7, a8, e1, e2, e3, e4, e5, e6, e7⟩ | h
  · exact Or.inl ⟨a1, a2, a3, a4, a5, a6, a7, a8, e1, e2, e3, by rw [e4, e], e5, e6, e7⟩
  · exact Or.inr h
theorem cloop_ok {l : List Nat} (hla : isLa la) (hg : gpl σ = la) (hgs : gps σ = s) (hs : s = 268 ∨ s = 275) (hl : wrd l) (hw : w ≤ 999) (hr : r ≤ 999) : ∀ (d j : Nat), j + d = 4 → ∀ {I J : Nat → Nat → Int32} {M : Nat → Nat → Int64} {i : Nat} {T : Nat → Nat}, CI I J L M X n m i la s W T lim k b j → M 437 (8 + k) = lN (pk27 l) → (j = 0 → ck X n (pz X n i) = 261) →
    LQ σ τ I J L M X n m i la s T (mX2_readCount_l103 282 (nI (pk5 l)) (nI w) (nI r) (nI j) (nI j) (hk σ I L)) (mX12_readCount_l76 433 (nI k) (nI w) (nI r) (nI j) (hk τ J M)) := by
  intro d
  induction d with
  | zero =>
    intro j hj I J M i T h hM h0
    have hj4 : j = 4 := by omega
    by_cases hc : ck X n (pz X n i) = 261
    · obtain ⟨hb, h7, h7i⟩ := need_room h
      obtain ⟨⟨dp, hp⟩, ⟨h2, h4, h6, _⟩, hS, hD, hx, h22, hO, hW⟩ := h
      obtain ⟨J1, e1, b1, f1⟩ := (room_ok (τ := τ) hp.2.1 (by omega) (a := j) (b := 4) (by omega) (by omega)).2 hj4
      have e1 : mX12_room 433 (nI j) (4 : Int32) (hk τ J M) = some (hk τ J1 M) := e1
      obtain ⟨I1, e2, b2', f2⟩ := fail_b2 (σ := σ) (L := L) hp.1 (f := 4) (by omega) (by omega)
      have e2 : (b2 (mX2_fail 282 (4 : Int32) (hk σ I L)) fun v50 h51 => (z01 v50).bind fun v => some (v, h51)) = some (0, hk σ I1 L) := e2
      obtain ⟨J2, T2, e3, b3, g3, _⟩ := expr_bad (τ := τ) (M := M) b1 (hp.2.2.2.2.1.mf f1) (by omega)
      have iw : mX12_isWord 433 17 (hk τ J M) = some (bI true) := by
        have := isWord_ok (σ := τ) (w := 5) hp.2.1.2.1 hp.2.1.2.2 (by omega)
        rw [decide_eq_true (show ck X n (pz X n i) = 256 + 5 from hc)] at this
        exact this
      refine Or.inr ⟨4, _, I1, J2, L, M, ?_, ?_, b2', b3, f2.fs, f1.1.tr g3.1⟩
      · unfold mX2_readCount_l103
        refine lp_inr ?_
        show mX2_readCount_l103f 282 (nI (pk5 l)) (nI w) (nI r) (nI j) (nI j) (hk σ I L) = _
        unfold mX2_readCount_l103f mX2_readCount_b164
        rw [if_neg (show ¬ nI j < (4 : Int32) from nI_nlt (b := 4) (by omega) (by omega)), nextKind_ok hp.1, obind, hc, if_pos (show nI 261 = (261 : Int32) from rfl), e2, xts]
      · have st : mX12_readCount_l76f 433 (nI k) (nI w) (nI r) (nI j) (hk τ J M) = some (.inl (nI j, hk τ J2 M)) := by
          unfold mX12_readCount_l76f mX12_readCount_b124
          rw [iw, obind, if_neg (show ¬ bI true = 0 by decide), e1, obind, e3, b2s, gMI, obind, if_neg b3.ne]
        have : mX12_readCount_l76 433 (nI k) (nI w) (nI r) (nI j) (hk τ J M) = mX12_readCount_l76 433 (nI k) (nI w) (nI r) (nI j) (hk τ J2 M) := lp_inl st
        rw [this, c76_bad b3]
    · exact cend_ok hla hg hgs hs h hl hM hw hr (by omega) hc
  | succ d ih =>
    intro j hj I J M i T h hM h0
    by_cases hc : ck X n (pz X n i) = 261
    · rcases cneed_ok (σ := σ) (τ := τ) (name := nI (pk5 l)) (w := nI w) (r := nI r) hla hg hs h (by omega) hc with ⟨I', J', M', i', T', c1, c2, c3, c4, c5, c6, c7, c8⟩ | ⟨fl, pl, I', J', M', c1, c2, c3, c4, c5, c6⟩
      · rw [c1, c2]
        exact ((ih (j + 1) (by omega) c3 (by rw [c8]; exact hM) (fun z => by omega)).pre (by omega) c6 c7).t0 c4
      · exact Or.inr ⟨fl, pl, I', J', L, M', c1, c2, c3, c4, c5, c6⟩
    · exact cend_ok hla hg hgs hs h hl hM hw hr (by have : j ≠ 0 := fun z => hc (h0 z); omega) hc
/-- a line that tells a COUNT -/
theorem l_count (hla : isLa la) (hg : gpl σ = la) (hgs : gps σ = s) (hs : s = 268 ∨ s = 275) (h : SV I J L M X n m i la s W T lim) (hc0 : ck X n (pz X n i) ≠ 0) (hc1 : ck X n (pz X n i) ≠ 1) : LQ σ τ I J L M X n m i la s T (mX2_readCount 282 (hk σ I L)) (mX12_readCount 433 (hk τ J M)) := by
  have hla' : la = 112 ∨ la = 190 := hla
  obtain ⟨⟨dp, hp⟩, hS, hD, h22, hO, hW⟩ := h
  have a2 := hS.1.2.1
  obtain ⟨c8, c5, c1, c2, cf, cn⟩ := id hp.2.2.1
  obtain ⟨m8, m5, m1, m2, mf, mn⟩ := id hp.2.2.2.1
  have c2 := c2 hW
  have cn := cn hW
  have m2 := m2 hW
  have mn := mn hW
  obtain ⟨rmA, rmB⟩ := room_ok (τ := τ) hp.2.1 hc1 (a := T 2) (b := 5) (by omega) (by omega)
  have b73 : ∀ {J : Nat → Nat → Int32} {M : Nat → Nat → Int64} {fl pl : Nat} (h : MFl J fl pl) (a w r : Int32), mX12_readCount_b73 433 a w r (hk τ J M) = some (hk τ J M) := fun h a w r => by
    unfold mX12_readCount_b73
    exact c76_bad h a w r 0
  -- what is left of the line, once wrong
  have r3 : ∀ {J : Nat → Nat → Int32} {M : Nat → Nat → Int64} {fl pl : Nat} (_ : MFl J fl pl) (a w r : Int32), ((mX12_isWord 433 17 (hk τ J M)).bind fun v19 => if v19 = 0 then ((mX12_wrong 433 (1 : Int32) (hk τ J M)).bind fun h45 => mX12_readCount_b73 433 a w r h45) else (mX12_readCount_b73 433 a w r (hk τ J M))) = some (hk τ J M) := fun h a w r => by
    rw [isWord_bad (w := 17) h.ne, obind, if_pos (show bI false = 0 from rfl), wrong_bad h, obind, b73 h]
  have r2 : ∀ {J : Nat → Nat → Int32} {M : Nat → Nat → Int64} {fl pl : Nat} (_ : MFl J fl pl) (a w : Int32), ((mX12_isWord 433 16 (hk τ J M)).bind fun v13 => (mX12_must 433 v13 (hk τ J M)).bind fun h16 => b2 (mX12_number 433 (0 : Int32) (999 : Int32) h16) fun v17 h18 => (mX12_isWord 433 17 h18).bind fun v19 => if v19 = 0 then ((mX12_wrong 433 (1 : Int32) h18).bind fun h45 => mX12_readCount_b73 433 a w v17 h45) else (mX12_readCount_b73 433 a w v17 h18)) = some (hk τ J M) := fun h a w => by
    rw [isWord_bad (w := 16) h.ne, obind, must_bad h, obind, number_bad h, b2s, r3 h]
  have r1 : ∀ {J : Nat → Nat → Int32} {M : Nat → Nat → Int64} {fl pl : Nat} (_ : MFl J fl pl) (a : Int32), ((mX12_isWord 433 15 (hk τ J M)).bind fun v7 => (mX12_must 433 v7 (hk τ J M)).bind fun h10 => b2 (mX12_number 433 (0 : Int32) (999 : Int32) h10) fun v11 h12 => (mX12_isWord 433 16 h12).bind fun v13 => (mX12_must 433 v13 h12).bind fun h16 => b2 (mX12_number 433 (0 : Int32) (999 : Int32) h16) fun v17 h18 => (mX12_isWord 433 17 h18).bind fun v19 => if v19 = 0 then ((mX12_wrong 433 (1 : Int32) h18).bind fun h45 => mX12_readCount_b73 433 a v11 v17 h45) else (mX12_readCount_b73 433 a v11 v17 h18)) = some (hk τ J M) := fun h a => by
    rw [isWord_bad (w := 15) h.ne, obind, must_bad h, obind, number_bad h, b2s, r2 h]
  unfold mX2_readCount mX12_readCount
  rw [if_pos s282, if_pos s433, gDr, hg, gI_la hla, obind, c2, gM 1, RF_433_1, show (2 : Int32) = nI 2 from rfl, ld435 hp.2.2.2.2.1 (by omega), obind]
  by_cases q5 : T 2 = 5
  · obtain ⟨J1, e1, b1, f1⟩ := rmB q5
    have e1 : mX12_room 433 (nI (T 2)) (5 : Int32) (hk τ J M) = some (hk τ J1 M) := e1
    obtain ⟨I1, e2, b2', f2⟩ := fail_b2 (σ := σ) (L := L) hp.1 (f := 4) (by omega) (by omega)
    have e2 : (b2 (mX2_fail 282 (4 : Int32) (hk σ I L)) fun v62 h63 => (z01 v62).bind fun v => some (v, h63)) = some (0, hk σ I1 L) := e2
    rw [if_neg (show ¬ nI (T 2) < (5 : Int32) from nI_nlt (b := 5) (by omega) (by omega)), e2, e1, obind, newName_bad b1 (by rw [f1.2.1]; exact m1) m8 (by rw [f1.2.1]; exact m2) m5, obind, r1 b1]
    exact Or.inr ⟨4, _, I1, J1, L, M, rfl, rfl, b2', b1, f2.fs, f1.1⟩
  · obtain ⟨u, w', e1, y2, y3⟩ := rmA q5
    have e1 : mX12_room 433 (nI (T 2)) (5 : Int32) (hk τ J M) = some (hk τ (rowUp J 433 u) (rowUp M 433 w')) := e1
    have p1 := hp.nx hla hc0 y2 y3
    rw [if_pos (show nI (T 2) < (5 : Int32) from nI_lt (b := 5) (by omega) (by omega)), gPI, obind, hp.1.2.2.2.2.2.1, sI_ok s282, obind, setI_hk, hpI_hk', nI_1, e1, obind, show (8 : Int32) = nI 8 from rfl, nI_add]
    rcases name_ok (σ := σ) (τ := τ) (L := L) hW p1.1 p1.2.1 (by rw [hg]; exact hla) (by rw [hg]; exact p1.2.2.1) p1.2.2.2.1 (s := 8 + T 2) (by omega) with ⟨l, hl, _, ⟨I2, x1, x2, x3, x4⟩, J2, M2, b1, b2', b3⟩ | ⟨fl, ⟨I2, x1, x2, x3⟩, J2, b1, b2', b3⟩
    · have hM2 : M2 437 = updA ((rowUp M 433 w') 437) (8 + T 2) (lN (pk27 l)) := by rw [b3.2.2.1, rowUp_same]
      have hM0 : (rowUp M 433 w') 437 = M 437 := rowUp_ne _ _ (by omega)
      have p2 : PE I2 J2 M2 X n m (i + 1 + 1) la 0 W (T 1) (T 2) T dp := by
        refine ⟨x2, b2', p1.2.2.1.cf hla x3, ⟨m8, m5, by rw [b3.2.1]; exact p1.2.2.2.1.2.2.1, by rw [b3.2.1]; exact p1.2.2.2.1.2.2.2.1, fun f hf => ?_, fun _ k hk' => ?_⟩, fun j hj => by rw [b3.2.1]; exact p1.2.2.2.2.1 j hj, p1.2.2.2.2.2.1.cf hla x3, by have := p1.2.2.2.2.2.2.1; omega, by rw [b3.2.2.2.1]; exact p1.2.2.2.2.2.2.2⟩
        · rw [hM2, updA_ne _ _ (by omega), hM0]; exact mf f hf
        · rw [hM2, updA_ne _ _ (by omega), hM0]; exact mn k hk'
      have fr2 : MFr J M J2 M2 := (y3.1.tr (MFr.u437 _)).tr b3.1
      have f22 : J2 433 22 = J 433 22 := by rw [b3.2.2.2.2, y3.2.2.2.2]
      have i2 : CF2 I I2 := CF2.up.tr x3
      rw [x1, b2s, if_neg (show ¬ (1 : Int32) = 0 by decide), gPI, obind, x4, b1, obind, isWord_ok (w := 3) p2.2.1.2.1 p2.2.1.2.2 (by omega), obind]
      rcases exp_ok (σ := σ) (τ := τ) (L := L) p2.1 p2.2.1 (c := 259) (by omega) (by omega) with ⟨_, ⟨I3, v1, v2, v3, v4⟩, J3, M3, z1, z2, z3⟩ | ⟨_, fl, pl, ⟨I3, v1, v2, v3⟩, J3, M3, z1, z2, z3⟩
      · have v1 : mX2_expect 282 (259 : Int32) (hk σ I2 L) = some (1, hk σ I3 L) := v1
        have p3 := p2.go hla v2 v3 z2 z3
        rw [v1, b2s, if_neg (show ¬ (1 : Int32) = 0 by decide), show (256 + 3 : Nat) = 259 from rfl, z1, obind]
        rcases num_ok (σ := σ) (τ := τ) (L := L) p3.1 p3.2.1 (lo := 0) (hi := 999) (by omega) (by omega) with ⟨w, _, hw, ⟨I4, d1, d2, d3, d4⟩, J4, M4, g1, g2, g3⟩ | ⟨fl, pl, ⟨I4, d1, d2, d3⟩, v, J4, M4, g1, g2, g3⟩
        · have d1 : mX2_number 282 (0 : Int32) (999 : Int32) (hk σ I3 L) = some (1, hk σ I4 L) := d1
          have g1 : mX12_number 433 (0 : Int32) (999 : Int32) (hk τ J3 M3) = some (nI w, hk τ J4 M4) := g1
          have p4 := p3.go hla d2 d3 g2 g3
          rw [d1, b2s, if_neg (show ¬ (1 : Int32) = 0 by decide), gPI, obind, d4, g1, b2s, isWord_ok (w := 4) p4.2.1.2.1 p4.2.1.2.2 (by omega), obind]
          rcases exp_ok (σ := σ) (τ := τ) (L := L) p4.1 p4.2.1 (c := 260) (by omega) (by omega) with ⟨_, ⟨I5, v1', v2', v3', v4'⟩, J5, M5, z1', z2', z3'⟩ | ⟨_, fl, pl, ⟨I5, v1', v2', v3'⟩, J5, M5, z1', z2', z3'⟩
          · have v1' : mX2_expect 282 (260 : Int32) (hk σ I4 L) = some (1, hk σ I5 L) := v1'
            have p5 := p4.go hla v2' v3' z2' z3'
            rw [v1', b2s, if_neg (show ¬ (1 : Int32) = 0 by decide), show (256 + 4 : Nat) = 260 from rfl, z1', obind]
            rcases num_ok (σ := σ) (τ := τ) (L := L) p5.1 p5.2.1 (lo := 0) (hi := 999) (by omega) (by omega) with ⟨r, _, hr, ⟨I6, d1', d2', d3', d4'⟩, J6, M6, g1', g2', g3'⟩ | ⟨fl, pl, ⟨I6, d1', d2', d3'⟩, v, J6, M6, g1', g2', g3'⟩
            · have d1' : mX2_number 282 (0 : Int32) (999 : Int32) (hk σ I5 L) = some (1, hk σ I6 L) := d1'
              have g1' : mX12_number 433 (0 : Int32) (999 : Int32) (hk τ J5 M5) = some (nI r, hk τ J6 M6) := g1'
              have p6 := p5.go hla d2' d3' g2' g3'
              have i6 : CF2 I I6 := i2.tr (v3.tr (d3.tr (v3'.tr d3')))
              have fr6 : MFr J M J6 M6 := fr2.tr (z3.1.tr (g3.1.tr (z3'.1.tr g3'.1)))
              have hM6 : M6 437 (8 + T 2) = lN (pk27 l) := by rw [g3'.2.2.1, z3'.2.2.1, g3.2.2.1, z3.2.2.1, hM2, updA_same]
              have hlt := ck_lt X n (pz X n (i + 1 + 1 + 1 + 1 + 1 + 1))
              rw [d1', b2s, if_neg (show ¬ (1 : Int32) = 0 by decide), gPI, obind, d4', g1', b2s, isWord_ok (w := 5) p6.2.1.2.1 p6.2.1.2.2 (by omega), obind, bI_if0]
              have eT : updA T 6 (T 6) = T := by
                funext x
                rw [updA_at]
                split
                · rename_i e; rw [e]
                · rfl
              have ci : CI I6 J6 L M6 X n m (i + 1 + 1 + 1 + 1 + 1 + 1) la s W T lim (T 2) (T 6) 0 := ⟨⟨dp, p6⟩, ⟨rfl, by omega, rfl, by omega⟩, by rw [eT]; exact hS, by rw [eT]; exact hD.cf hla hs i6, fun x hx => by omega, by rw [g3'.2.2.2.2, z3'.2.2.2.2, g3.2.2.2.2, z3.2.2.2.2, f22, h22], hO, hW⟩
              by_cases q : ck X n (pz X n (i + 1 + 1 + 1 + 1 + 1 + 1)) = 256 + 5
              · rw [decide_eq_true q, if_neg nTF]
                unfold mX12_readCount_b73
                exact (cloop_ok hla hg hgs hs hl hw hr 4 0 (by omega) ci hM6 (fun _ => q)).pre (by omega) i6.fs fr6
              · obtain ⟨I7, e7, b7, f7⟩ := fail_b2 (σ := σ) (L := L) p6.1 (f := 1) (by omega) (by omega)
                obtain ⟨u', w1', w2', w3⟩ := wrong_ok (σ := τ) p6.2.1 (f := 1) (by omega) (by omega)
                have w1' : mX12_wrong 433 (1 : Int32) (hk τ J6 M6) = some (hk τ (rowUp J6 433 u') M6) := w1'
                have w2' : MFl (rowUp J6 433 u') 1 (pz X n (i + 1 + 1 + 1 + 1 + 1 + 1)) := by simpa using w2'
                have ex : mX2_expect 282 (261 : Int32) (hk σ I6 L) = some (0, hk σ I7 L) := by
                  unfold mX2_expect
                  rw [if_pos s282, nextKind_ok p6.1, obind, show (261 : Int32) = nI 261 from rfl, ckd (by omega), if_neg q]
                  exact e7
                have cl : mX2_readCount_l103 282 (nI (pk5 l)) (nI w) (nI r) (0 : Int32) (0 : Int32) (hk σ I6 L) = some (0, hk σ I7 L) := by
                  unfold mX2_readCount_l103
                  refine lp_inr ?_
                  show mX2_readCount_l103f 282 (nI (pk5 l)) (nI w) (nI r) (0 : Int32) (0 : Int32) (hk σ I6 L) = _
                  unfold mX2_readCount_l103f mX2_readCount_b124
                  rw [if_pos (by decide), if_pos rfl, ex, b2s, if_pos rfl, xts]
                rw [decide_eq_false q, if_pos rfl, w1', obind, b73 w2', cl]
                exact Or.inr ⟨1, _, I7, _, L, M6, rfl, rfl, b7, w2', (i6.tr f7).fs, fr6.tr w3.1⟩
            · have d1' : mX2_number 282 (0 : Int32) (999 : Int32) (hk σ I5 L) = some (0, hk σ I6 L) := d1'
              have g1' : mX12_number 433 (0 : Int32) (999 : Int32) (hk τ J5 M5) = some (v, hk τ J6 M6) := g1'
              rw [d1', b2s, if_pos rfl, g1', b2s, r3 g2']
              exact Or.inr ⟨fl, pl, I6, J6, L, M6, rfl, rfl, d2', g2', (i2.tr (v3.tr (d3.tr (v3'.tr d3')))).fs, fr2.tr (z3.1.tr (g3.1.tr (z3'.1.tr g3'.1)))⟩
          · have v1' : mX2_expect 282 (260 : Int32) (hk σ I4 L) = some (0, hk σ I5 L) := v1'
            rw [v1', b2s, if_pos rfl, show (256 + 4 : Nat) = 260 from rfl, z1', obind, number_bad z2', b2s, r3 z2']
            exact Or.inr ⟨fl, pl, I5, J5, L, M5, rfl, rfl, v2', z2', (i2.tr (v3.tr (d3.tr v3'))).fs, fr2.tr (z3.1.tr (g3.1.tr z3'.1))⟩
        · have d1 : mX2_number 282 (0 : Int32) (999 : Int32) (hk σ I3 L) = some (0, hk σ I4 L) := d1
          have g1 : mX12_number 433 (0 : Int32) (999 : Int32) (hk τ J3 M3) = some (v, hk τ J4 M4) := g1
          rw [d1, b2s, if_pos rfl, g1, b2s, r2 g2]
          exact Or.inr ⟨fl, pl, I4, J4, L, M4, rfl, rfl, d2, g2, (i2.tr (v3.tr d3)).fs, fr2.tr (z3.1.tr g3.1)⟩
      · have v1 : mX2_expect 282 (259 : Int32) (hk σ I2 L) = some (0, hk σ I3 L) := v1
        rw [v1, b2s, if_pos rfl, show (256 + 3 : Nat) = 259 from rfl, z1, obind, number_bad z2, b2s, r2 z2]
        exact Or.inr ⟨fl, pl, I3, J3, L, M3, rfl, rfl, v2, z2, (i2.tr v3).fs, fr2.tr z3.1⟩
    · rw [x1, b2s, if_pos rfl, b1, obind, r1 b2']
      exact Or.inr ⟨fl, _, I2, J2, L, _, rfl, rfl, x2, b2', (CF2.up.tr x3).fs, y3.1.tr b3.1⟩
end CountLine
