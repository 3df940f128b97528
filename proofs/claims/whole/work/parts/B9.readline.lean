section ReadLine
variable {σ τ : Sg} {I I' J J' I1 I2 I3 Ja : Nat → Nat → Int32} {L L' M M' L1 L2 : Nat → Nat → Int64} {X : Nat → Nat} {n m i i2 la off t1 t2 fl pl dp h0 N kk lim s k b j w r c : Nat} {W : Nat → List Nat} {T T' : Nat → Nat}
/-- a line that says a FACT -/
theorem l_says (hla : isLa la) (hg : gpl σ = la) (hgs : gps σ = s) (hs : s = 268 ∨ s = 275) (h : SV I J L M X n m i la s W T lim) (hc0 : ck X n (pz X n i) ≠ 0) : LQ σ τ I J L M X n m i la s T (mX2_readSays 282 (hk σ I L)) (mX12_readSays 433 (hk τ J M)) := by
  obtain ⟨⟨dp, hp⟩, hS, hD, h22, hO, hW⟩ := h
  have a1 := hS.1.1
  have a2 := hS.1.2.1
  obtain ⟨u, w, e1, y2, y3⟩ := PMk.nx (σ := τ) hp.2.1
  have p1 := hp.nx hla hc0 y2 y3
  unfold mX2_readSays mX12_readSays
  rw [if_pos s282, if_pos s433, gPI, obind, hp.1.2.2.2.2.2.1, sI_ok s282, obind, setI_hk, hpI_hk', nI_1, e1, obind]
  rcases count_ok (σ := σ) (τ := τ) (L := L) hW p1.1 p1.2.1 (by rw [hg]; exact hla) (by rw [hg]; exact p1.2.2.1) p1.2.2.2.1 with ⟨x, hx, _, ⟨I2, x1, x2, x3, x4⟩, b0⟩ | ⟨fl, ⟨I2, x1, x2, x3⟩, J2, b1, b2', b3⟩
  · obtain ⟨J2, M2, b1, b2', b3⟩ := known_of (τ := τ) p1.2.1 b0
    have p2 := p1.go hla x2 x3 b2' b3
    have i2 : CF2 I I2 := CF2.up.tr x3
    have f22 : J2 433 22 = bI (decide (lim ≠ 0)) := by rw [b3.2.2.2.2, y3.2.2.2.2, h22]
    rw [x1, b2s, if_neg (show ¬ (1 : Int32) = 0 by decide), gPI, obind, x4, nextKind_ok p2.1, obind, b1, b2s, show (33 : Int32) = nI 33 from rfl, isSign_ok p2.2.1.2.1 p2.2.1.2.2 (by decide), obind, ckd (by omega), bI_if0]
    unfold mX2_readSays_b38 mX12_readSays_b24
    by_cases q : ck X n (pz X n (i + 1 + 1)) = 33
    · obtain ⟨u', w', e1', y2', y3'⟩ := PMk.nx (σ := τ) p2.2.1
      have p3 := p2.nx hla (by omega) y2' y3'
      have sv : SV (rowUp I2 282 (updA (I2 282) 5 (nI (i + 1 + 1 + 1)))) (rowUp J2 433 u') L (rowUp M2 433 w') X n m (i + 1 + 1 + 1) la s W T lim := ⟨⟨dp, p3⟩, hS, hD.cf hla hs (i2.tr CF2.up), by rw [y3'.2.2.2.2, f22], hO, hW⟩
      rw [if_pos q, decide_eq_true q, if_neg nTF, if_pos rfl, if_pos rfl, gPI, obind, p2.1.2.2.2.2.2.1, sI_ok s282, obind, setI_hk, hpI_hk', nI_1, e1', obind]
      exact (says_ok (so := 0) hla hg hgs hs sv hx (by omega)).pre (by omega) (i2.tr CF2.up).fs (y3.1.tr (b3.1.tr y3'.1))
    · have sv : SV I2 J2 L M2 X n m (i + 1 + 1) la s W T lim := ⟨⟨dp, p2⟩, hS, hD.cf hla hs i2, f22, hO, hW⟩
      rw [if_neg q, decide_eq_false q, if_pos rfl, if_neg (show ¬ (1 : Int32) = 0 by decide), if_neg (show ¬ (1 : Int32) = 0 by decide)]
      exact (says_ok (so := 1) hla hg hgs hs sv hx (by omega)).pre (by omega) i2.fs (y3.1.tr b3.1)
  · have t51 : T (51 + 0) < 256 := by
      have p256 := ev_lt a1
      by_cases q : 0 < T 2
      · have := (hS.2.2.1 0 q).2.2.2.2.1; omega
      · have := (hS.2.2.2.1 0 (by omega) (by omega)).1; omega
    have e := says33_bad (τ := τ) (M := rowUp M 433 w) b2' (p1.2.2.2.2.1.mf b3) (by rw [b3.2.1]; exact p1.2.2.2.1.2.2.1) a1 (by rw [b3.2.1]; exact p1.2.2.2.1.2.2.2.1 hW) a2 (k := 0) (by omega) t51 1
    have e : mX12_readSays_b33 433 (0 : Int32) (1 : Int32) (hk τ J2 (rowUp M 433 w)) = some (hk τ J2 (rowUp M 433 w)) := e
    rw [x1, b2s, if_pos rfl, known_no b2' b1, b2s, isSign_bad b2'.ne, obind, if_pos (show bI false = 0 from rfl)]
    unfold mX12_readSays_b24
    rw [if_neg (show ¬ (1 : Int32) = 0 by decide), e]
    exact Or.inr ⟨fl, _, I2, J2, L, _, rfl, rfl, x2, b2', (CF2.up.tr x3).fs, y3.1.tr b3.1⟩
theorem tsw_hi {α : Type} {lo c : Nat} (hc : c < 2147483648) (l : List α) (d : α) : tsw (nI c) (lo : Int) l d = if c < lo then d else l.getD (c - lo) d := by
  unfold tsw
  rw [nI_toInt hc]
  by_cases q : c < lo
  · rw [if_pos (by omega), if_pos q]
  · rw [if_neg (by omega), if_neg q]
    congr 1
    omega
theorem zX {v : Int32} {h : Hp} (hv : v = 0 ∨ v = 1) : ((z01 v).bind fun v => some (v, h)) = some (v, h) := by rcases hv with rfl | rfl <;> rfl
/-- a line is counted -/
theorem SV.inc (hla : isLa la) (hs : s = 268 ∨ s = 275) (h : SV I J L M X n m i la s W T lim) : SV (rowUp I la (updA (I la) 0 (nI (T 0 + 1)))) (rowUp J 435 (updA (J 435) 0 (nI (T 0 + 1)))) L M X n m i la s W (updA T 0 (T 0 + 1)) lim := by
  have hla' : la = 112 ∨ la = 190 := hla
  have hgt := la_gt hla
  obtain ⟨⟨dp, hp⟩, hS, hD, h22, hO, hW⟩ := h
  obtain ⟨T', hT⟩ : ∃ T', T' = updA T 0 (T 0 + 1) := ⟨_, rfl⟩
  obtain ⟨I', hI⟩ : ∃ I', I' = rowUp I la (updA (I la) 0 (nI (T 0 + 1))) := ⟨_, rfl⟩
  rw [← hT, ← hI]
  have t0 : T' 0 = T 0 + 1 := by rw [hT, updA_same]
  have tn : ∀ j, j ≠ 0 → T' j = T j := fun j a => by rw [hT, updA_ne _ _ a]
  have i0 : I' la 0 = nI (T 0 + 1) := by rw [hI, rowUp_same, updA_same]
  have ik : ∀ k, k ≠ 0 → I' la k = I la k := fun k a => by rw [hI, rowUp_same, updA_ne _ _ a]
  have ix : ∀ x, x ≠ la → I' x = I x := fun x a => by rw [hI, rowUp_ne _ _ a]
  have ec : cT T' = cT T := by funext x; exact tn _ (by omega)
  have e7 : T' 7 = T 7 := tn 7 (by omega)
  have g : GR T T' := ⟨by rw [e7]; exact Nat.le_refl _, fun j h1 h2 => tn j (by omega), fun e he => ⟨tn _ (by omega), tn _ (by omega)⟩⟩
  have em : may T' = may T := g.mayc hS (tn 3 (by omega)) (fun k _ => tn _ (by omega))
  have ef : fst0 T' = fst0 T := fst0_cg (tn 2 (by omega)) (fun k _ => tn _ (by omega))
  have en : ∀ n, ndT T' n = ndT T n := fun n => ndT_cg (fun k _ => tn _ (by omega))
  have q1 := hp.set (k := 0) (T 0 + 1) (by omega) (by omega) (by omega) (by omega)
  rw [← hT] at q1
  have r1 := q1.1.row (x := la) (updA (I la) 0 (nI (T 0 + 1))) hgt.1 (by omega)
  refine ⟨⟨dp, ?_⟩, ?_, ?_, by rw [rowUp_ne _ _ (by omega)]; exact h22, hO, hW⟩
  · rw [tn 1 (by omega), tn 2 (by omega), hI]
    exact ⟨r1, q1.2.1, CN.fld q1.2.2.1 hla _ (by omega) (by omega), q1.2.2.2.1, q1.2.2.2.2.1, CK.fld q1.2.2.2.2.2.1 _ (by omega), q1.2.2.2.2.2.2.1, q1.2.2.2.2.2.2.2⟩
  · unfold SP at hS ⊢
    rw [ec, em, en]
    simp (disch := omega) only [tn]
    exact hS
  · unfold SD sl at hD ⊢
    rw [ec, em, ef, i0, t0]
    simp (disch := omega) only [tn, ix, ik]
    exact ⟨⟨trivial, hD.1.2⟩, hD.2⟩
theorem MFl.b117 (h : MFl J fl pl) : ∃ J', mX12_readLine_b117 433 (hk τ J M) = some (hk τ J' M) ∧ MFl J' fl pl ∧ MFr J M J' M := by
  refine ⟨_, ?_, h.set _, (MX.u435 (updA (J 435) 0 (J 435 0 + 1))).1⟩
  unfold mX12_readLine_b117
  rw [gM 1, RF_433_1, show (0 : Int32) = nI 0 from rfl, ldI_ok (n := 640) rfl (by omega) (by omega), obind, hpI_hk, st435 _ (by omega), obind]
/-- a line -/
theorem line_ok (hla : isLa la) (hg : gpl σ = la) (hgs : gps σ = s) (hs : s = 268 ∨ s = 275) (h : SV I J L M X n m i la s W T lim) (hc0 : ck X n (pz X n i) ≠ 0) :
    (∃ I' J' L' M' i' W' T' lim' v, mX2_readLine 282 (hk σ I L) = some (1, hk σ I' L') ∧ I' la 0 = v ∧ mX12_readLine 433 (hk τ J M) = some (hk τ J' M') ∧ SV (rowUp I' la (updA (I' la) 0 (v + 1))) J' L' M' X n m i' la s W' T' lim' ∧ i < i' ∧ FS la s I L I' L' ∧ MFr J M J' M' ∧ T' 0 = T 0 + 1) ∨
    (∃ fl pl I' J' L' M', mX2_readLine 282 (hk σ I L) = some (0, hk σ I' L') ∧ mX12_readLine 433 (hk τ J M) = some (hk τ J' M') ∧ CFl I' fl pl ∧ MFl J' fl pl ∧ FS la s I L I' L' ∧ MFr J M J' M') := by
  have hlt := ck_lt X n (pz X n i)
  obtain ⟨⟨dp, hp⟩, _⟩ := id h
  have iw : ∀ w, w < 11 → mX12_isWord 433 (12 + w) (hk τ J M) = some (bI (decide (ck X n (pz X n i) = 256 + w))) := fun w hw => isWord_ok (σ := τ) hp.2.1.2.1 hp.2.1.2.2 hw
  have fin : ∀ {cls : Option (Int32 × Hp)} {mdl : Option Hp} {rm : Option Hp}, LQ σ τ I J L M X n m i la s T cls mdl → mX2_readLine 282 (hk σ I L) = (b2 cls fun v h => (z01 v).bind fun v => some (v, h)) → mX12_readLine 433 (hk τ J M) = (mdl.bind fun h => mX12_readLine_b117 433 h) →
      (∃ I' J' L' M' i' W' T' lim' v, mX2_readLine 282 (hk σ I L) = some (1, hk σ I' L') ∧ I' la 0 = v ∧ mX12_readLine 433 (hk τ J M) = some (hk τ J' M') ∧ SV (rowUp I' la (updA (I' la) 0 (v + 1))) J' L' M' X n m i' la s W' T' lim' ∧ i < i' ∧ FS la s I L I' L' ∧ MFr J M J' M' ∧ T' 0 = T 0 + 1) ∨
      (∃ fl pl I' J' L' M', mX2_readLine 282 (hk σ I L) = some (0, hk σ I' L') ∧ mX12_readLine 433 (hk τ J M) = some (hk τ J' M') ∧ CFl I' fl pl ∧ MFl J' fl pl ∧ FS la s I L I' L' ∧ MFr J M J' M') := by
    intro cls mdl rm hq ec em
    rcases hq with ⟨I', J', L', M', i', W', T', lim', e1, e2, e3, e4, e5, e6, e7⟩ | ⟨fl, pl, I', J', L', M', e1, e2, e3, e4, e5, e6⟩
    · refine Or.inl ⟨I', rowUp J' 435 (updA (J' 435) 0 (nI (T' 0 + 1))), L', M', i', W', updA T' 0 (T' 0 + 1), lim', nI (T' 0), by rw [ec, e1, b2s]; rfl, e3.2.2.1.1.1, ?_, ?_, e5, e6, e7.tr (MX.u435 _).1, by rw [updA_same, e4]⟩
      · rw [em, e2, obind]
        unfold mX12_readLine_b117
        obtain ⟨dp', hp'⟩ := e3.1
        rw [gM 1, RF_433_1, show (0 : Int32) = nI 0 from rfl, ld435 hp'.2.2.2.2.1 (by omega), obind, nI_1, st435 _ (by omega), obind]
      · rw [nI_1]; exact e3.inc hla hs
    · obtain ⟨J2, g1, g2, g3⟩ := e4.b117 (τ := τ) (M := M')
      exact Or.inr ⟨fl, pl, I', J2, L', M', by rw [ec, e1, b2s]; rfl, by rw [em, e2, obind, g1], e3, g2, e5, e6.tr g3⟩
  have no : (∀ w, w = 0 ∨ w = 1 ∨ w = 2 ∨ w = 6 ∨ w = 7 ∨ w = 8 ∨ w = 9 → ck X n (pz X n i) ≠ 256 + w) → mX2_readLine 282 (hk σ I L) = (b2 (mX2_fail 282 (1 : Int32) (hk σ I L)) fun v3 h4 => (z01 v3).bind fun v => some (v, h4)) →
      (∃ I' J' L' M' i' W' T' lim' v, mX2_readLine 282 (hk σ I L) = some (1, hk σ I' L') ∧ I' la 0 = v ∧ mX12_readLine 433 (hk τ J M) = some (hk τ J' M') ∧ SV (rowUp I' la (updA (I' la) 0 (v + 1))) J' L' M' X n m i' la s W' T' lim' ∧ i < i' ∧ FS la s I L I' L' ∧ MFr J M J' M' ∧ T' 0 = T 0 + 1) ∨
      (∃ fl pl I' J' L' M', mX2_readLine 282 (hk σ I L) = some (0, hk σ I' L') ∧ mX12_readLine 433 (hk τ J M) = some (hk τ J' M') ∧ CFl I' fl pl ∧ MFl J' fl pl ∧ FS la s I L I' L' ∧ MFr J M J' M') := by
    intro hn ec
    obtain ⟨I1, e2, b2', f2⟩ := fail_b2 (σ := σ) (L := L) hp.1 (f := 1) (by omega) (by omega)
    have e2 : (b2 (mX2_fail 282 (1 : Int32) (hk σ I L)) fun v3 h4 => (z01 v3).bind fun v => some (v, h4)) = some (0, hk σ I1 L) := e2
    obtain ⟨u, w1, w2, w3⟩ := wrong_ok (σ := τ) hp.2.1 (f := 1) (by omega) (by omega)
    have w1 : mX12_wrong 433 (1 : Int32) (hk τ J M) = some (hk τ (rowUp J 433 u) M) := w1
    have w2 : MFl (rowUp J 433 u) 1 (pz X n i) := by simpa using w2
    obtain ⟨J2, g1, g2, g3⟩ := w2.b117 (τ := τ) (M := M)
    refine Or.inr ⟨1, _, I1, J2, L, M, by rw [ec, e2], ?_, b2', g2, f2.fs, w3.1.tr g3⟩
    unfold mX12_readLine
    rw [if_pos s433, iw 0 (by omega), obind, decide_eq_false (hn 0 (by omega)), if_pos (show bI false = 0 from rfl), iw 1 (by omega), obind, decide_eq_false (hn 1 (by omega)), if_pos (show bI false = 0 from rfl), iw 2 (by omega), obind, decide_eq_false (hn 2 (by omega)), if_pos (show bI false = 0 from rfl), iw 6 (by omega), obind, decide_eq_false (hn 6 (by omega)), if_pos (show bI false = 0 from rfl), iw 7 (by omega), obind, decide_eq_false (hn 7 (by omega)), if_pos (show bI false = 0 from rfl), iw 8 (by omega), obind, decide_eq_false (hn 8 (by omega)), if_pos (show bI false = 0 from rfl), iw 9 (by omega), obind, decide_eq_false (hn 9 (by omega)), if_pos (show bI false = 0 from rfl), w1, obind, g1]
  obtain ⟨c, hc⟩ : ∃ c, c = ck X n (pz X n i) := ⟨_, rfl⟩
  rw [← hc] at hlt
  have iw' : ∀ w, w < 11 → mX12_isWord 433 (12 + w) (hk τ J M) = some (bI (decide (c = 256 + w))) := fun w hw => by rw [hc]; exact iw w hw
  have kd : mX2_nextKind 282 (hk σ I L) = some (nI c) := by rw [hc]; exact nextKind_ok hp.1
  have tw : ∀ {α : Type} (l : List α) (d : α), tsw (nI c) 256 l d = if c < 256 then d else l.getD (c - 256) d := fun l d => tsw_hi (lo := 256) (by omega) l d
  rcases (show c < 256 ∨ c = 256 ∨ c = 257 ∨ c = 258 ∨ c = 259 ∨ c = 260 ∨ c = 261 ∨ c = 262 ∨ c = 263 ∨ c = 264 ∨ c = 265 ∨ 266 ≤ c by omega) with q | q | q | q | q | q | q | q | q | q | q | q
  · refine no (fun w hw => by omega) ?_
    unfold mX2_readLine
    rw [if_pos s282, kd, obind, tw, if_pos q]
  · subst q
    refine fin (rm := none) (l_fact hla hg hs h hc0 (by omega)) ?_ ?_
    · unfold mX2_readLine
      rw [if_pos s282, kd, obind, tw, if_neg (by omega)]
      rfl
    · unfold mX12_readLine
      rw [if_pos s433, iw' 0 (by omega), obind, decide_eq_true (by rfl), if_neg (show ¬ bI true = 0 by decide)]
  · subst q
    refine fin (rm := none) (l_never hla hg hs h hc0 (by omega)) ?_ ?_
    · unfold mX2_readLine
      rw [if_pos s282, kd, obind, tw, if_neg (by omega)]
      rfl
    · unfold mX12_readLine
      rw [if_pos s433, iw' 0 (by omega), obind, decide_eq_false (by decide), if_pos (show bI false = 0 from rfl), iw' 1 (by omega), obind, decide_eq_true (by rfl), if_neg (show ¬ bI true = 0 by decide)]
  · subst q
    refine fin (rm := none) (l_count hla hg hgs hs h hc0 (by omega)) ?_ ?_
    · unfold mX2_readLine
      rw [if_pos s282, kd, obind, tw, if_neg (by omega)]
      rfl
    · unfold mX12_readLine
      rw [if_pos s433, iw' 0 (by omega), obind, decide_eq_false (by decide), if_pos (show bI false = 0 from rfl), iw' 1 (by omega), obind, decide_eq_false (by decide), if_pos (show bI false = 0 from rfl), iw' 2 (by omega), obind, decide_eq_true (by rfl), if_neg (show ¬ bI true = 0 by decide)]
  · refine no (fun w hw => by omega) ?_
    unfold mX2_readLine
    rw [if_pos s282, kd, obind, tw, if_neg (by omega), q]
    rfl
  · refine no (fun w hw => by omega) ?_
    unfold mX2_readLine
    rw [if_pos s282, kd, obind, tw, if_neg (by omega), q]
    rfl
  · refine no (fun w hw => by omega) ?_
    unfold mX2_readLine
    rw [if_pos s282, kd, obind, tw, if_neg (by omega), q]
    rfl
  · subst q
    refine fin (rm := none) (l_plea hla hg hs h hc0 (by omega)) ?_ ?_
    · unfold mX2_readLine
      rw [if_pos s282, kd, obind, tw, if_neg (by omega)]
      rfl
    · unfold mX12_readLine
      rw [if_pos s433, iw' 0 (by omega), obind, decide_eq_false (by decide), if_pos (show bI false = 0 from rfl), iw' 1 (by omega), obind, decide_eq_false (by decide), if_pos (show bI false = 0 from rfl), iw' 2 (by omega), obind, decide_eq_false (by decide), if_pos (show bI false = 0 from rfl), iw' 6 (by omega), obind, decide_eq_true (by rfl), if_neg (show ¬ bI true = 0 by decide)]
  · subst q
    refine fin (rm := none) (l_says hla hg hgs hs h hc0) ?_ ?_
    · unfold mX2_readLine
      rw [if_pos s282, kd, obind, tw, if_neg (by omega)]
      rfl
    · unfold mX12_readLine
      rw [if_pos s433, iw' 0 (by omega), obind, decide_eq_false (by decide), if_pos (show bI false = 0 from rfl), iw' 1 (by omega), obind, decide_eq_false (by decide), if_pos (show bI false = 0 from rfl), iw' 2 (by omega), obind, decide_eq_false (by decide), if_pos (show bI false = 0 from rfl), iw' 6 (by omega), obind, decide_eq_false (by decide), if_pos (show bI false = 0 from rfl), iw' 7 (by omega), obind, decide_eq_true (by rfl), if_neg (show ¬ bI true = 0 by decide)]
  · subst q
    refine fin (rm := none) (l_same hla hg hs h hc0) ?_ ?_
    · unfold mX2_readLine
      rw [if_pos s282, kd, obind, tw, if_neg (by omega)]
      rfl
    · unfold mX12_readLine
      rw [if_pos s433, iw' 0 (by omega), obind, decide_eq_false (by decide), if_pos (show bI false = 0 from rfl), iw' 1 (by omega), obind, decide_eq_false (by decide), if_pos (show bI false = 0 from rfl), iw' 2 (by omega), obind, decide_eq_false (by decide), if_pos (show bI false = 0 from rfl), iw' 6 (by omega), obind, decide_eq_false (by decide), if_pos (show bI false = 0 from rfl), iw' 7 (by omega), obind, decide_eq_false (by decide), if_pos (show bI false = 0 from rfl), iw' 8 (by omega), obind, decide_eq_true (by rfl), if_neg (show ¬ bI true = 0 by decide)]
  · subst q
    refine fin (rm := none) (l_limit hla hg hs h hc0 (by omega)) ?_ ?_
    · unfold mX2_readLine
      rw [if_pos s282, kd, obind, tw, if_neg (by omega)]
      rfl
    · unfold mX12_readLine
      rw [if_pos s433, iw' 0 (by omega), obind, decide_eq_false (by decide), if_pos (show bI false = 0 from rfl), iw' 1 (by omega), obind, decide_eq_false (by decide), if_pos (show bI false = 0 from rfl), iw' 2 (by omega), obind, decide_eq_false (by decide), if_pos (show bI false = 0 from rfl), iw' 6 (by omega), obind, decide_eq_false (by decide), if_pos (show bI false = 0 from rfl), iw' 7 (by omega), obind, decide_eq_false (by decide), if_pos (show bI false = 0 from rfl), iw' 8 (by omega), obind, decide_eq_false (by decide), if_pos (show bI false = 0 from rfl), iw' 9 (by omega), obind, decide_eq_true (by rfl), if_neg (show ¬ bI true = 0 by decide)]
  · refine no (fun w hw => by omega) ?_
    unfold mX2_readLine
    rw [if_pos s282, kd, obind, tw, if_neg (by omega), tdN (by show 10 ≤ c - 256; omega)]
end ReadLine
