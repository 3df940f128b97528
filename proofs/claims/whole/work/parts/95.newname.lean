section NewName
variable {σ τ : Sg} {I I' J J' I1 I2 I3 Ja : Nat → Nat → Int32} {L L' M M' L1 L2 : Nat → Nat → Int64} {X : Nat → Nat} {n m i la t1 t2 fl pl : Nat} {W : Nat → List Nat}
theorem gDr {ρ : Type} (f : Nat → Option ρ) : (gR 2 3 282 (hk σ I L)).bind f = f (gpl σ) := rfl
theorem ck_lt (X : Nat → Nat) (n b : Nat) : ck X n b < 1000 := by
  rcases tkc_all X n b with ⟨_, e, _⟩ | ⟨_, e, _⟩ | ⟨w, _, _, e, _⟩ | ⟨l, _, _, e, _⟩ | ⟨_, e, _⟩ | ⟨_, e, _⟩
  · omega
  · omega
  · omega
  · omega
  · omega
  · have := mrk_c e; omega
theorem ck_name {X : Nat → Nat} {n b : Nat} (h : ck X n b = 2) : ∃ l, wrd l ∧ cv X n b = pk5 l ∧ mwd X n b = pk27 l := by
  rcases tkc_all X n b with ⟨_, e, _⟩ | ⟨_, e, _⟩ | ⟨w, _, _, e, _⟩ | ⟨l, _, hl, e, _, e3, e4, _⟩ | ⟨_, e, _⟩ | ⟨_, e, _⟩
  · omega
  · omega
  · omega
  · exact ⟨l, hl, e4, e3⟩
  · omega
  · have := mrk_c e; omega
/-- a fact that must be known -/
theorem fact_ok (hc : PCk I X n m i) (hm : PMk J M X n i) (hla : isLa (gpl σ)) (hN : CN I (gpl σ) t1 t2 W) (hM : MN J M t1 t2 W) :
    (∃ f, f < t1 ∧ ck X n (pz X n i) = 2 ∧ (∃ I', mX2_knownFact 282 (hk σ I L) = some (1, hk σ I' L) ∧ PCk I' X n m (i + 1) ∧ CF2 I I' ∧ I' 282 6 = nI f) ∧ mX12_here 433 (1 : Int32) (hk τ J M) = some (nI f, hk τ J M)) ∨
    (∃ fl, (∃ I', mX2_knownFact 282 (hk σ I L) = some (0, hk σ I' L) ∧ CFl I' fl (pz X n i) ∧ CF2 I I') ∧ ∃ J', mX12_here 433 (1 : Int32) (hk τ J M) = some (0, hk τ J' M) ∧ MFl J' fl (pz X n i) ∧ MF2 J M J' M) := by
  obtain ⟨m1, m2, m3⟩ := mhere_ok (σ := τ) hm hM true (fun z => by cases z)
  have hlt := ck_lt X n (pz X n i)
  have t8 := hN.1
  by_cases q : ck X n (pz X n i) = 2
  · obtain ⟨l, hl, ev, ew⟩ := ck_name q
    have pre : ∀ {α : Type} (K : Int32 → Hp → Option α), ((gR 2 3 282 (hk σ I L)).bind fun v3 => (mX2_nextValue 282 (hk σ I L)).bind fun v4 => (mX1_factNamed v3 v4 (hk σ I L)).bind fun v6 => (sI 2 6 282 v6 (hk σ I L)).bind fun h8 => (gI 2 6 282 h8).bind fun v9 => K v9 h8) = K (oI (fstB (fun f => decide (W f = l)) t1)) (hk σ (rowUp I 282 (updA (I 282) 6 (oI (fstB (fun f => decide (W f = l)) t1)))) L) := fun K => by
      rw [gDr, nextValue_ok hc, obind, ev, cfact_ok hN hla hl, obind, sI_ok s282, obind, setI_hk, hpI_hk', gPI, obind, rowUp_same, updA_same]
    cases ho : fstB (fun f => decide (W f = l)) t1 with
    | some f =>
      have hf := (fstB_some.mp ho).1
      have hg := hc.got (nI f)
      refine Or.inl ⟨f, hf, q, ⟨_, ?_, hg.adv (by omega), fun x hx => by rw [rowUp_ne _ _ hx, rowUp_ne _ _ hx], by rw [rowUp_same, updA_ne _ _ (by omega), rowUp_same, updA_same]⟩, m1 l hl q ew f ho⟩
      unfold mX2_knownFact
      rw [if_pos s282, nextKind_ok hc, obind, q, if_pos (by rfl), pre, ho, show oI (some f) = nI f from rfl, if_neg (nI_pos (by omega)), gPI, obind, hg.2.2.2.2.2.1, sI_ok s282, obind, setI_hk, hpI_hk', nI_1]
    | none =>
      have hg := hc.got (-1)
      obtain ⟨I', e, r⟩ := fail_b2 (σ := σ) (L := L) hg (f := 3) (by omega) (by omega)
      obtain ⟨J', r2⟩ := m2 l hl q ew ho
      refine Or.inr ⟨3, ⟨I', ?_, r.1, CF2.tr CF2.up r.2⟩, J', r2⟩
      unfold mX2_knownFact
      rw [if_pos s282, nextKind_ok hc, obind, q, if_pos (by rfl), pre, ho]
      show (if (-1 : Int32) < 0 then _ else _) = _
      rw [if_pos (by decide)]
      exact e
  · obtain ⟨I', e, r⟩ := fail_b2 (σ := σ) (L := L) hc (f := 1) (by omega) (by omega)
    obtain ⟨J', r2⟩ := m3 q
    refine Or.inr ⟨1, ⟨I', ?_, r⟩, J', r2⟩
    unfold mX2_knownFact
    rw [if_pos s282, nextKind_ok hc, obind, show (2 : Int32) = nI 2 from rfl, c_eqd (by omega) (by omega), if_neg q]
    exact e
/-- a COUNT that must be known -/
theorem count_ok (hW : W 13 = []) (hc : PCk I X n m i) (hm : PMk J M X n i) (hla : isLa (gpl σ)) (hN : CN I (gpl σ) t1 t2 W) (hM : MN J M t1 t2 W) :
    (∃ f, f < t2 ∧ ck X n (pz X n i) = 2 ∧ (∃ I', mX2_knownCount 282 (hk σ I L) = some (1, hk σ I' L) ∧ PCk I' X n m (i + 1) ∧ CF2 I I' ∧ I' 282 6 = nI f) ∧ mX12_here 433 (0 : Int32) (hk τ J M) = some (nI f, hk τ J M)) ∨
    (∃ fl, (∃ I', mX2_knownCount 282 (hk σ I L) = some (0, hk σ I' L) ∧ CFl I' fl (pz X n i) ∧ CF2 I I') ∧ ∃ J', mX12_here 433 (0 : Int32) (hk τ J M) = some (0, hk τ J' M) ∧ MFl J' fl (pz X n i) ∧ MF2 J M J' M) := by
  obtain ⟨m1, m2, m3⟩ := mhere_ok (σ := τ) hm hM false (fun _ => hW)
  have hlt := ck_lt X n (pz X n i)
  have t5 := hN.2.1
  by_cases q : ck X n (pz X n i) = 2
  · obtain ⟨l, hl, ev, ew⟩ := ck_name q
    have pre : ∀ {α : Type} (K : Int32 → Hp → Option α), ((gR 2 3 282 (hk σ I L)).bind fun v3 => (mX2_nextValue 282 (hk σ I L)).bind fun v4 => (mX1_countNamed v3 v4 (hk σ I L)).bind fun v6 => (sI 2 6 282 v6 (hk σ I L)).bind fun h8 => (gI 2 6 282 h8).bind fun v9 => K v9 h8) = K (oI (fstB (fun k => decide (W (8 + k) = l)) t2)) (hk σ (rowUp I 282 (updA (I 282) 6 (oI (fstB (fun k => decide (W (8 + k) = l)) t2)))) L) := fun K => by
      rw [gDr, nextValue_ok hc, obind, ev, ccount_ok hW hN hla hl, obind, sI_ok s282, obind, setI_hk, hpI_hk', gPI, obind, rowUp_same, updA_same]
    cases ho : fstB (fun k => decide (W (8 + k) = l)) t2 with
    | some f =>
      have hf := (fstB_some.mp ho).1
      have hg := hc.got (nI f)
      refine Or.inl ⟨f, hf, q, ⟨_, ?_, hg.adv (by omega), fun x hx => by rw [rowUp_ne _ _ hx, rowUp_ne _ _ hx], by rw [rowUp_same, updA_ne _ _ (by omega), rowUp_same, updA_same]⟩, m1 l hl q ew f ho⟩
      unfold mX2_knownCount
      rw [if_pos s282, nextKind_ok hc, obind, q, if_pos (by rfl), pre, ho, show oI (some f) = nI f from rfl, if_neg (nI_pos (by omega)), gPI, obind, hg.2.2.2.2.2.1, sI_ok s282, obind, setI_hk, hpI_hk', nI_1]
    | none =>
      have hg := hc.got (-1)
      obtain ⟨I', e, r⟩ := fail_b2 (σ := σ) (L := L) hg (f := 3) (by omega) (by omega)
      obtain ⟨J', r2⟩ := m2 l hl q ew ho
      refine Or.inr ⟨3, ⟨I', ?_, r.1, CF2.tr CF2.up r.2⟩, J', r2⟩
      unfold mX2_knownCount
      rw [if_pos s282, nextKind_ok hc, obind, q, if_pos (by rfl), pre, ho]
      show (if (-1 : Int32) < 0 then _ else _) = _
      rw [if_pos (by decide)]
      exact e
  · obtain ⟨I', e, r⟩ := fail_b2 (σ := σ) (L := L) hc (f := 1) (by omega) (by omega)
    obtain ⟨J', r2⟩ := m3 q
    refine Or.inr ⟨1, ⟨I', ?_, r⟩, J', r2⟩
    unfold mX2_knownCount
    rw [if_pos s282, nextKind_ok hc, obind, show (2 : Int32) = nI 2 from rfl, c_eqd (by omega) (by omega), if_neg q]
    exact e
/-- the model goes on behind what is known -/
theorem known_of (hm : PMk J M X n i) {x v : Int32} (h : mX12_here 433 x (hk τ J M) = some (v, hk τ J M)) : ∃ J' M', mX12_known 433 x (hk τ J M) = some (v, hk τ J' M') ∧ PMk J' M' X n (i + 1) ∧ MF2 J M J' M' := by
  obtain ⟨u, w, e, r⟩ := PMk.ps (σ := τ) hm
  exact ⟨_, _, by unfold mX12_known; rw [if_pos s433, h, b2s, e, obind], r⟩
theorem known_no (hf : MFl J' fl pl) {x v : Int32} (h : mX12_here 433 x (hk τ J M) = some (v, hk τ J' M)) : mX12_known 433 x (hk τ J M) = some (v, hk τ J' M) := by
  unfold mX12_known
  rw [if_pos s433, h, b2s, passes_bad hf, obind]
theorem PMk.up437 (h : PMk J M X n i) (r : Nat → Int64) : PMk J (rowUp M 437 r) X n i := ⟨h.1, ⟨h.2.1.1, h.2.1.2.1, h.2.1.2.2.1, h.2.1.2.2.2.1, by rw [rowUp_ne _ _ (by omega)]; exact h.2.1.2.2.2.2⟩, h.2.2⟩
/-- a name that must be new -/
theorem name_ok (hW : W 13 = []) (hc : PCk I X n m i) (hm : PMk J M X n i) (hla : isLa (gpl σ)) (hN : CN I (gpl σ) t1 t2 W) (hM : MN J M t1 t2 W) {s : Nat} (hs : s < 13) :
    (∃ l, wrd l ∧ ck X n (pz X n i) = 2 ∧ (∃ I', mX2_newName 282 (hk σ I L) = some (1, hk σ I' L) ∧ PCk I' X n m (i + 1) ∧ CF2 I I' ∧ I' 282 6 = nI (pk5 l)) ∧ ∃ J' M', mX12_newName 433 (nI s) (hk τ J M) = some (hk τ J' M') ∧ PMk J' M' X n (i + 1) ∧ MF2 J (rowUp M 437 (updA (M 437) s (lN (pk27 l)))) J' M') ∨
    (∃ fl, (∃ I', mX2_newName 282 (hk σ I L) = some (0, hk σ I' L) ∧ CFl I' fl (pz X n i) ∧ CF2 I I') ∧ ∃ J', mX12_newName 433 (nI s) (hk τ J M) = some (hk τ J' M) ∧ MFl J' fl (pz X n i) ∧ MF2 J M J' M) := by
  have hlt := ck_lt X n (pz X n i)
  have t8 := hN.1
  have t5 := hN.2.1
  by_cases q : ck X n (pz X n i) = 2
  · obtain ⟨l, hl, ev, ew⟩ := ck_name q
    have e21 : M 433 21 = lN (pk27 l) := by rw [hm.2.1.2.2.2.2, ew]
    have hg := hc.got (nI (pk5 l))
    have hN' := hN.cf hla (CF2.up (u := updA (I 282) 6 (nI (pk5 l))))
    have f1 := cfact_ok (σ := σ) (L := L) hN' hla hl
    have f2 := ccount_ok (σ := σ) (L := L) hW hN' hla hl
    have g6 : (rowUp I 282 (updA (I 282) 6 (nI (pk5 l)))) 282 6 = nI (pk5 l) := by rw [rowUp_same, updA_same]
    have no : (fstB (fun f => decide (W f = l)) t1 ≠ none ∨ fstB (fun k => decide (W (8 + k) = l)) t2 ≠ none) → (∃ fl, (∃ I', mX2_newName 282 (hk σ I L) = some (0, hk σ I' L) ∧ CFl I' fl (pz X n i) ∧ CF2 I I') ∧ ∃ J', mX12_newName 433 (nI s) (hk τ J M) = some (hk τ J' M) ∧ MFl J' fl (pz X n i) ∧ MF2 J M J' M) := by
      intro hno
      obtain ⟨I', e, r⟩ := fail_b2 (σ := σ) (L := L) hg (f := 3) (by omega) (by omega)
      obtain ⟨u, e2, r1, r2⟩ := wrong_ok (σ := τ) hm (f := 3) (by omega) (by omega)
      have e2 : mX12_wrong 433 (3 : Int32) (hk τ J M) = some (hk τ (rowUp J 433 u) M) := e2
      have e : (b2 (mX2_fail 282 (3 : Int32) (hk σ (rowUp I 282 (updA (I 282) 6 (nI (pk5 l)))) L)) fun v10 h11 => (z01 v10).bind fun v => some (v, h11)) = some (0, hk σ I' L) := e
      rw [if_neg (by omega)] at r1
      have b28 : mX12_newName_b28 433 (nI s) (hk τ J M) = some (hk τ (rowUp J 433 u) M) := by
        unfold mX12_newName_b28 mX12_newName_b33 mX12_newName_b50
        rw [e2, obind, gMI, obind, if_neg r1.ne, passes_bad r1, obind]
      refine ⟨3, ⟨I', ?_, r.1, CF2.tr CF2.up r.2⟩, _, ?_, r1, r2⟩
      · unfold mX2_newName mX2_newName_b50
        rw [if_pos s282, nextKind_ok hc, obind, q, if_pos (by rfl), nextValue_ok hc, obind, ev, sI_ok s282, obind, setI_hk, hpI_hk', gDr, gPI, obind, g6, f1, obind]
        cases ho : fstB (fun f => decide (W f = l)) t1 with
        | some f =>
          have := (fstB_some.mp ho).1
          rw [if_neg (show ¬ oI (some f) < 0 from nI_pos (by omega))]
          exact e
        | none =>
          rw [if_pos (show oI none < 0 by decide), gDr, obind, f2, obind]
          cases ho2 : fstB (fun k => decide (W (8 + k) = l)) t2 with
          | some f =>
            have := (fstB_some.mp ho2).1
            rw [if_neg (show ¬ oI (some f) < 0 from nI_pos (by omega))]
            exact e
          | none => exact absurd hno (by rw [ho, ho2]; simp)
      · unfold mX12_newName mX12_newName_b12
        rw [if_pos s433, isName_ok hm.2.1 hm.2.2, obind, decide_eq_true q, if_neg (by decide), mfact_ok hM hl e21, obind, mcount_ok hW hM hl e21, obind, b28]
        cases ho : fstB (fun f => decide (W f = l)) t1 with
        | some f =>
          have := (fstB_some.mp ho).1
          show (if nI f = -1 then _ else _) = _
          rw [if_neg (nI_nm1 (by omega))]
        | none =>
          cases ho2 : fstB (fun k => decide (W (8 + k) = l)) t2 with
          | some f =>
            have := (fstB_some.mp ho2).1
            show (if (-1 : Int32) = -1 then (if nI f = -1 then _ else _) else _) = _
            rw [if_pos rfl, if_neg (nI_nm1 (by omega))]
          | none => exact absurd hno (by rw [ho, ho2]; simp)
    by_cases hno : fstB (fun f => decide (W f = l)) t1 ≠ none ∨ fstB (fun k => decide (W (8 + k) = l)) t2 ≠ none
    · exact Or.inr (no hno)
    · have ho : fstB (fun f => decide (W f = l)) t1 = none := Classical.byContradiction fun z => hno (Or.inl z)
      have ho2 : fstB (fun k => decide (W (8 + k) = l)) t2 = none := Classical.byContradiction fun z => hno (Or.inr z)
      obtain ⟨u, w, e, r⟩ := PMk.ps (σ := τ) (hm.up437 (updA (M 437) s (lN (pk27 l))))
      refine Or.inl ⟨l, hl, q, ⟨_, ?_, hg.adv (by omega), fun x hx => by rw [rowUp_ne _ _ hx, rowUp_ne _ _ hx], by rw [rowUp_same, updA_ne _ _ (by omega), rowUp_same, updA_same]⟩, _, _, ?_, r⟩
      · unfold mX2_newName
        rw [if_pos s282, nextKind_ok hc, obind, q, if_pos (by rfl), nextValue_ok hc, obind, ev, sI_ok s282, obind, setI_hk, hpI_hk', gDr, gPI, obind, g6, f1, obind, ho, if_pos (show oI none < 0 by decide), gDr, obind, f2, obind, ho2, if_pos (show oI none < 0 by decide), gPI, obind, hg.2.2.2.2.2.1, sI_ok s282, obind, setI_hk, hpI_hk', rowUp_same, nI_1]
      · unfold mX12_newName mX12_newName_b12 mX12_newName_b33 mX12_newName_b50
        rw [if_pos s433, isName_ok hm.2.1 hm.2.2, obind, decide_eq_true q, if_neg (by decide), mfact_ok hM hl e21, obind, mcount_ok hW hM hl e21, obind, ho, ho2]
        show (if (-1 : Int32) = -1 then (if (-1 : Int32) = -1 then _ else _) else _) = _
        rw [if_pos rfl, if_pos rfl, gMI, obind, if_pos hm.2.2, gM 3, RF_433_3, gML, obind, e21, stL_ok (n := 13) rfl hs (by omega), obind, setL_hk, hpL_hk'', e, obind]
  · obtain ⟨I', e, r⟩ := fail_b2 (σ := σ) (L := L) hc (f := 1) (by omega) (by omega)
    obtain ⟨u, e2, r1, r2⟩ := wrong_ok (σ := τ) hm (f := 1) (by omega) (by omega)
    have e2 : mX12_wrong 433 (1 : Int32) (hk τ J M) = some (hk τ (rowUp J 433 u) M) := e2
    have r1 : MFl (rowUp J 433 u) 1 (pz X n i) := by simpa using r1
    refine Or.inr ⟨1, ⟨I', ?_, r⟩, _, ?_, r1, r2⟩
    · unfold mX2_newName
      rw [if_pos s282, nextKind_ok hc, obind, show (2 : Int32) = nI 2 from rfl, c_eqd (by omega) (by omega), if_neg q]
      exact e
    · have b := newName_bad (σ := τ) (M := M) r1 (t1 := t1) (t2 := t2) (by rw [r2.2.1]; exact hM.2.2.1) hM.1 (by rw [r2.2.1]; exact hM.2.2.2.1 hW) hM.2.1 (nI s)
      obtain ⟨c, ec⟩ := isName_bad (σ := τ) (M := M) r1
      have b12 : mX12_newName_b12 433 (nI s) (hk τ (rowUp J 433 u) M) = some (hk τ (rowUp J 433 u) M) := by
        unfold mX12_newName at b
        rw [if_pos s433, ec, obind, wrong_bad r1, obind] at b
        cases c
        · exact b
        · exact b
      unfold mX12_newName
      rw [if_pos s433, isName_ok hm.2.1 hm.2.2, obind, decide_eq_false q, if_pos (show bI false = 0 from rfl), e2, obind, b12]
end NewName
