section Steps
variable {σ τ : Sg} {I I' J J' I1 I2 I3 Ja : Nat → Nat → Int32} {L L' M M' L1 L2 : Nat → Nat → Int64} {X : Nat → Nat} {n m i la t1 t2 : Nat} {W : Nat → List Nat}
theorem PCk.adv (h : PCk I X n m i) (hne : ck X n (pz X n i) ≠ 0) : PCk (rowUp I 282 (updA (I 282) 5 (nI (i + 1)))) X n m (i + 1) :=
  h.up (updA_same _ _ _) (by have := h.2.2.2.2.2.2; have : i ≠ m := fun q => hne (h.end_iff.mpr q); omega)
theorem PCk.got (h : PCk I X n m i) (v : Int32) : PCk (rowUp I 282 (updA (I 282) 6 v)) X n m i := h.up (by rw [updA_ne _ _ (by omega)]; exact h.2.2.2.2.2.1) h.2.2.2.2.2.2
theorem zB {h : Hp} (b : Bool) : ((z01 (bI b)).bind fun v => some (v, h)) = some (bI b, h) := by cases b <;> rfl
theorem fail_b2 (h : PCk I X n m i) {f : Nat} (h1 : 1 ≤ f) (h5 : f ≤ 5) : ∃ I', (b2 (mX2_fail 282 (nI f) (hk σ I L)) fun v8 h9 => (z01 v8).bind fun v => some (v, h9)) = some (0, hk σ I' L) ∧ CFl I' f (pz X n i) ∧ CF2 I I' := by
  obtain ⟨u, e, r⟩ := fail_ok (σ := σ) (L := L) h h1 h5
  exact ⟨_, by rw [e, b2s]; rfl, r, CF2.up⟩
/-- a kind that must be there -/
theorem exp_ok (hc : PCk I X n m i) (hm : PMk J M X n i) {c : Nat} (h1 : 2 ≤ c) (h2 : c < 1000) :
    (ck X n (pz X n i) = c ∧ (∃ I', mX2_expect 282 (nI c) (hk σ I L) = some (1, hk σ I' L) ∧ PCk I' X n m (i + 1) ∧ CF2 I I' ∧ I' 282 6 = I 282 6) ∧ ∃ J' M', mX12_must 433 (bI (decide (ck X n (pz X n i) = c))) (hk τ J M) = some (hk τ J' M') ∧ PMk J' M' X n (i + 1) ∧ MF2 J M J' M') ∨
    (ck X n (pz X n i) ≠ c ∧ ∃ fl pl, (∃ I', mX2_expect 282 (nI c) (hk σ I L) = some (0, hk σ I' L) ∧ CFl I' fl pl ∧ CF2 I I') ∧ ∃ J' M', mX12_must 433 (bI (decide (ck X n (pz X n i) = c))) (hk τ J M) = some (hk τ J' M') ∧ MFl J' fl pl ∧ MF2 J M J' M') := by
  have hck : ck X n (pz X n i) < 2147483648 := by
    rcases tkc_all X n (pz X n i) with ⟨_, e, _⟩ | ⟨_, e, _⟩ | ⟨w, _, _, e, _⟩ | ⟨l, _, _, e, _⟩ | ⟨_, e, _⟩ | ⟨_, e, _⟩
    · omega
    · omega
    · omega
    · omega
    · omega
    · have := mrk_c e; omega
  by_cases q : ck X n (pz X n i) = c
  · refine Or.inl ⟨q, ⟨_, ?_, hc.adv (by omega), CF2.up, by rw [rowUp_same, updA_ne _ _ (by omega)]⟩, ?_⟩
    · unfold mX2_expect
      rw [if_pos s282, nextKind_ok hc, obind, if_pos (by rw [q]), gPI, obind, hc.2.2.2.2.2.1, sI_ok s282, obind, setI_hk, hpI_hk', nI_1]
    · obtain ⟨u, w, e, r⟩ := PMk.ps (σ := τ) hm
      refine ⟨_, _, ?_, r⟩
      unfold mX12_must mX12_must_b9
      rw [if_pos s433, decide_eq_true q, if_neg (by decide), e, obind]
  · obtain ⟨I', e, r⟩ := fail_b2 (σ := σ) (L := L) hc (f := 1) (by omega) (by omega)
    obtain ⟨u, e2, r2⟩ := wrong_ok (σ := τ) hm (f := 1) (by omega) (by omega)
    refine Or.inr ⟨q, 1, pz X n i, ⟨I', ?_, r⟩, _, M, ?_, by simpa using r2.1, r2.2⟩
    · unfold mX2_expect
      rw [if_pos s282, nextKind_ok hc, obind, c_eqd hck (by omega), if_neg q]
      exact e
    · have e2 : mX12_wrong 433 (1 : Int32) (hk τ J M) = some (hk τ (rowUp J 433 u) M) := e2
      unfold mX12_must mX12_must_b9
      rw [if_pos s433, decide_eq_false q, if_pos (show bI false = 0 from rfl), e2, obind, passes_bad r2.1, obind]
/-- a number -/
theorem num_ok (hc : PCk I X n m i) (hm : PMk J M X n i) {lo hi : Nat} (h1 : lo ≤ hi) (h2 : hi ≤ 999) :
    (∃ v, lo ≤ v ∧ v ≤ hi ∧ (∃ I', mX2_number 282 (nI lo) (nI hi) (hk σ I L) = some (1, hk σ I' L) ∧ PCk I' X n m (i + 1) ∧ CF2 I I' ∧ I' 282 6 = nI v) ∧ ∃ J' M', mX12_number 433 (nI lo) (nI hi) (hk τ J M) = some (nI v, hk τ J' M') ∧ PMk J' M' X n (i + 1) ∧ MF2 J M J' M') ∨
    (∃ fl pl, (∃ I', mX2_number 282 (nI lo) (nI hi) (hk σ I L) = some (0, hk σ I' L) ∧ CFl I' fl pl ∧ CF2 I I') ∧ ∃ v J' M', mX12_number 433 (nI lo) (nI hi) (hk τ J M) = some (v, hk τ J' M') ∧ MFl J' fl pl ∧ MF2 J M J' M') := by
  have no : ck X n (pz X n i) ≠ 3 → ck X n (pz X n i) < 1000 → mtk X n (pz X n i) ≠ 3 → mtk X n (pz X n i) < 100 → ∃ fl pl, (∃ I', mX2_number 282 (nI lo) (nI hi) (hk σ I L) = some (0, hk σ I' L) ∧ CFl I' fl pl ∧ CF2 I I') ∧ ∃ v J' M', mX12_number 433 (nI lo) (nI hi) (hk τ J M) = some (v, hk τ J' M') ∧ MFl J' fl pl ∧ MF2 J M J' M' := by
    intro a b c d
    obtain ⟨I', e, r⟩ := fail_b2 (σ := σ) (L := L) hc (f := 1) (by omega) (by omega)
    obtain ⟨u, e2, r2⟩ := wrong_ok (σ := τ) hm (f := 1) (by omega) (by omega)
    have e2 : mX12_wrong 433 (1 : Int32) (hk τ J M) = some (hk τ (rowUp J 433 u) M) := e2
    refine ⟨1, pz X n i, ⟨I', ?_, r⟩, (rowUp J 433 u) 433 15, rowUp J 433 u, M, ?_, by simpa using r2.1, r2.2⟩
    · unfold mX2_number
      rw [if_pos s282, nextKind_ok hc, obind, show (3 : Int32) = nI 3 from rfl, c_eqd (by omega) (by omega), if_neg a]
      exact e
    · unfold mX12_number mX12_number_b33
      rw [if_pos s433, gMI, obind, hm.2.1.2.2.1, show (3 : Int32) = nI 3 from rfl, c_eqd (by omega) (by omega), if_neg c, e2, obind, gMI, obind, passes_bad r2.1, obind]
  rcases tkc_all X n (pz X n i) with ⟨_, e1, e2⟩ | ⟨_, e1, e2⟩ | ⟨w, _, _, e1, e2, _⟩ | ⟨l, _, _, e1, e2, _⟩ | ⟨_, e1, e2, e3, e4⟩ | ⟨_, e1, e2, _⟩
  · exact Or.inr (no (by omega) (by omega) (by omega) (by omega))
  · exact Or.inr (no (by omega) (by omega) (by omega) (by omega))
  · exact Or.inr (no (by omega) (by omega) (by omega) (by omega))
  · exact Or.inr (no (by omega) (by omega) (by omega) (by omega))
  · obtain ⟨v, hv⟩ : ∃ v, v = cv X n (pz X n i) := ⟨_, rfl⟩
    rw [← hv] at e3 e4
    have hg := hc.got (nI v)
    have pre : ∀ {α : Type} (K : Int32 → Hp → Option α), ((mX2_nextValue 282 (hk σ I L)).bind fun v3 => (sI 2 6 282 v3 (hk σ I L)).bind fun h5 => (gI 2 6 282 h5).bind fun v6 => K v6 h5) = K (nI v) (hk σ (rowUp I 282 (updA (I 282) 6 (nI v))) L) := fun K => by
      rw [nextValue_ok hc, obind, sI_ok s282, obind, setI_hk, hpI_hk', gPI, obind, rowUp_same, updA_same, hv]
    by_cases q : lo ≤ v ∧ v ≤ hi
    · refine Or.inl ⟨v, q.1, q.2, ⟨_, ?_, hg.adv (by omega), fun x hx => by rw [rowUp_ne _ _ hx, rowUp_ne _ _ hx], by rw [rowUp_same, updA_ne _ _ (by omega), rowUp_same, updA_same]⟩, ?_⟩
      · unfold mX2_number
        rw [if_pos s282, nextKind_ok hc, obind, e1, if_pos (by rfl), pre, if_neg (nI_nlt q.1 (by omega)), gPI, obind, rowUp_same, updA_same, if_neg (nI_nlt q.2 (by omega)), gPI, obind, hg.2.2.2.2.2.1, sI_ok s282, obind, setI_hk, hpI_hk', rowUp_same, nI_1]
      · obtain ⟨u, w, e, r⟩ := PMk.ps (σ := τ) hm
        refine ⟨_, _, ?_, r⟩
        unfold mX12_number mX12_number_b33
        rw [if_pos s433, gMI, obind, hm.2.1.2.2.1, e2, if_pos (by rfl), gMI, obind, hm.2.1.2.2.2.1, e3, in_ok (by omega) (by omega) (by omega), obind, decide_eq_true q, if_neg (by decide), obind, e, obind]
    · obtain ⟨I', e, r⟩ := fail_b2 (σ := σ) (L := L) hg (f := 2) (by omega) (by omega)
      obtain ⟨u, e5, r2⟩ := wrong_ok (σ := τ) hm (f := 2) (by omega) (by omega)
      have e5 : mX12_wrong 433 (2 : Int32) (hk τ J M) = some (hk τ (rowUp J 433 u) M) := e5
      rw [if_neg (by omega)] at r2
      refine Or.inr ⟨2, pz X n i, ⟨I', ?_, r.1, CF2.tr CF2.up r.2⟩, (rowUp J 433 u) 433 15, rowUp J 433 u, M, ?_, r2⟩
      · unfold mX2_number mX2_number_b38
        rw [if_pos s282, nextKind_ok hc, obind, e1, if_pos (by rfl), pre]
        by_cases c : v < lo
        · rw [if_pos (nI_lt c (by omega))]; exact e
        · rw [if_neg (nI_nlt (by omega) (by omega)), gPI, obind, rowUp_same, updA_same, if_pos (nI_lt (by omega) (by omega))]; exact e
      · unfold mX12_number mX12_number_b33
        rw [if_pos s433, gMI, obind, hm.2.1.2.2.1, e2, if_pos (by rfl), gMI, obind, hm.2.1.2.2.2.1, e3, in_ok (by omega) (by omega) (by omega), obind, decide_eq_false q, if_pos (show bI false = 0 from rfl), e5, obind, gMI, obind, passes_bad r2.1, obind]
  · exact Or.inr (no (by have := mrk_c e1; omega) (by have := mrk_c e1; omega) (by omega) (by omega))
end Steps
