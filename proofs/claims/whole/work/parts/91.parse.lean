/-! READING: where both sides stand in the tokens, and how they fail -/
def PCk (I : Nat → Nat → Int32) (X : Nat → Nat) (n m i : Nat) : Prop := (n ≤ 480 ∧ I 282 7 = 0) ∧ m ≤ n ∧ TK I X n (m + 1) ∧ pz X n m = n ∧ (∀ j, j < m → pz X n j < n) ∧ I 282 5 = nI i ∧ i ≤ m
def PMk (J : Nat → Nat → Int32) (M : Nat → Nat → Int64) (X : Nat → Nat) (n i : Nat) : Prop := TM J X n ∧ MT J M X n (pz X n i) ∧ J 433 17 = 0
def CFl (I : Nat → Nat → Int32) (fl pl : Nat) : Prop := 1 ≤ fl ∧ fl ≤ 5 ∧ pl ≤ 480 ∧ I 282 7 = nI fl ∧ I 282 8 = nI pl
def MFl (J : Nat → Nat → Int32) (fl pl : Nat) : Prop := 1 ≤ fl ∧ fl ≤ 5 ∧ pl ≤ 480 ∧ J 433 17 = nI fl ∧ J 433 18 = nI pl
/-- what the model leaves as it is while it reads -/
def MFr (J : Nat → Nat → Int32) (M : Nat → Nat → Int64) (J' : Nat → Nat → Int32) (M' : Nat → Nat → Int64) : Prop := (∀ x, x ≠ 433 → x ≠ 435 → x ≠ 437 → x ≠ 443 → J' x = J x ∧ M' x = M x) ∧ (∀ k, k < 12 ∨ 18 < k → k ≠ 22 → J' 433 k = J 433 k) ∧ (∀ k, k ≠ 21 → M' 433 k = M 433 k) ∧ M' 435 = M 435 ∧ J' 437 = J 437
/-- as MFr, and the rows of what is read too -/
def MF2 (J : Nat → Nat → Int32) (M : Nat → Nat → Int64) (J' : Nat → Nat → Int32) (M' : Nat → Nat → Int64) : Prop := MFr J M J' M' ∧ J' 435 = J 435 ∧ M' 437 = M 437 ∧ J' 433 16 = J 433 16 ∧ J' 433 22 = J 433 22
section Parse
variable {σ : Sg} {I I' J J' I1 I2 I3 Ja : Nat → Nat → Int32} {L L' M M' L1 L2 : Nat → Nat → Int64} {X : Nat → Nat} {n m i : Nat}
theorem MF2.rf : MF2 J M J M := ⟨⟨fun _ _ _ _ _ => ⟨rfl, rfl⟩, fun _ _ _ => rfl, fun _ _ => rfl, rfl, rfl⟩, rfl, rfl, rfl, rfl⟩
theorem MFr.rf : MFr J M J M := MF2.rf.1
theorem MFr.tr (h : MFr J M I1 L1) (g : MFr I1 L1 I2 L2) : MFr J M I2 L2 :=
  ⟨fun x a b c d => ⟨(g.1 x a b c d).1.trans (h.1 x a b c d).1, (g.1 x a b c d).2.trans (h.1 x a b c d).2⟩, fun k a b => (g.2.1 k a b).trans (h.2.1 k a b), fun k a => (g.2.2.1 k a).trans (h.2.2.1 k a), g.2.2.2.1.trans h.2.2.2.1, g.2.2.2.2.trans h.2.2.2.2⟩
theorem MF2.tr (h : MF2 J M I1 L1) (g : MF2 I1 L1 I2 L2) : MF2 J M I2 L2 := ⟨h.1.tr g.1, g.2.1.trans h.2.1, g.2.2.1.trans h.2.2.1, g.2.2.2.1.trans h.2.2.2.1, g.2.2.2.2.trans h.2.2.2.2⟩
/-- fields of the model's own row -/
theorem MF2.up {u : Nat → Int32} {q : Nat → Int64} (hu : ∀ k, k < 12 ∨ 18 < k ∨ k = 16 → u k = J 433 k) (hq : ∀ k, k ≠ 21 → q k = M 433 k) : MF2 J M (rowUp J 433 u) (rowUp M 433 q) :=
  ⟨⟨fun x a b c d => ⟨rowUp_ne _ _ a, rowUp_ne _ _ a⟩, fun k a b => by rw [rowUp_same]; exact hu k (by omega), fun k a => by rw [rowUp_same]; exact hq k a, rowUp_ne _ _ (by omega), rowUp_ne _ _ (by omega)⟩, rowUp_ne _ _ (by omega), rowUp_ne _ _ (by omega), by rw [rowUp_same]; exact hu 16 (by omega), by rw [rowUp_same]; exact hu 22 (by omega)⟩
theorem PCk.le (h : PCk I X n m i) : pz X n i ≤ n ∧ i ≤ 480 := ⟨pz_le X n i, by have := h.1; have := h.2.1; have := h.2.2.2.2.2.2; omega⟩
theorem PCk.kd (h : PCk I X n m i) : I 104 i = nI (ck X n (pz X n i)) ∧ I 105 i = nI (pz X n i) ∧ I 106 i = nI (cv X n (pz X n i)) := h.2.2.1.2 i (by have := h.2.2.2.2.2.2; omega)
theorem PCk.end_iff (h : PCk I X n m i) : ck X n (pz X n i) = 0 ↔ i = m := by
  have hi := h.2.2.2.2.2.2
  constructor
  · intro e
    rcases tkc_all X n (pz X n i) with ⟨a, _⟩ | ⟨_, b, _⟩ | ⟨w, _, _, b, _⟩ | ⟨l, _, _, b, _⟩ | ⟨_, b, _⟩ | ⟨_, b, _⟩
    · by_cases q : i < m
      · have := h.2.2.2.2.1 i q; omega
      · omega
    · omega
    · omega
    · omega
    · omega
    · have := mrk_c b; omega
  · intro e
    rw [e, h.2.2.2.1]
    unfold ck
    rw [if_pos (Nat.le_refl _)]
theorem PCk.up (h : PCk I X n m i) {u : Nat → Int32} {j : Nat} (hj : u 5 = nI j) (hm : j ≤ m) (h7 : u 7 = I 282 7 := by rfl) : PCk (rowUp I 282 u) X n m j :=
  ⟨⟨h.1.1, by rw [rowUp_same, h7]; exact h.1.2⟩, h.2.1, ⟨by rw [rowUp_ne _ _ (by omega)]; exact h.2.2.1.1, fun i hi => by rw [rowUp_ne _ _ (by omega), rowUp_ne _ _ (by omega), rowUp_ne _ _ (by omega)]; exact h.2.2.1.2 i hi⟩, h.2.2.2.1, h.2.2.2.2.1, by rw [rowUp_same, hj], hm⟩
theorem gTok {ρ : Type} (f : Nat → Option ρ) : (gR 2 0 282 (hk σ I L)).bind f = f 103 := rfl
theorem gPI (k : Nat) : gI 2 k 282 (hk σ I L) = some (I 282 k) := gI_ok s282
theorem aLen_r {a k : Nat} (hs : SH (gN σ) a = (50, k)) : aLen a (hk σ I L) = some (nI k) := by
  unfold aLen
  rw [hpS_hk, hs]
  rfl
theorem nextKind_ok (h : PCk I X n m i) : mX2_nextKind 282 (hk σ I L) = some (nI (ck X n (pz X n i))) := by
  have := h.le
  unfold mX2_nextKind
  rw [if_pos s282, gPI, obind, h.2.2.2.2.2.1, if_neg (nI_pos (by omega)), obind, gTok, g103, RF_103_0, aLen_r (k := 481) rfl, obind, c_lt (by omega) (by omega), gTok, g103, RF_103_0, obind, ldI_ok (n := 481) rfl (by omega) (by omega), obind, hpI_hk, h.kd.1]
theorem nextValue_ok (h : PCk I X n m i) : mX2_nextValue 282 (hk σ I L) = some (nI (cv X n (pz X n i))) := by
  have := h.le
  unfold mX2_nextValue
  rw [if_pos s282, gPI, obind, h.2.2.2.2.2.1, if_neg (nI_pos (by omega)), obind, gTok, g103, RF_103_2, aLen_r (k := 481) rfl, obind, c_lt (by omega) (by omega), gTok, g103, RF_103_2, obind, ldI_ok (n := 481) rfl (by omega) (by omega), obind, hpI_hk, h.kd.2.2]
/-- the class fails -/
theorem fail_ok (h : PCk I X n m i) {f : Nat} (h1 : 1 ≤ f) (h5 : f ≤ 5) : ∃ u, mX2_fail 282 (nI f) (hk σ I L) = some (0, hk σ (rowUp I 282 u) L) ∧ CFl (rowUp I 282 u) f (pz X n i) := by
  have := h.le
  have := h.1
  refine ⟨updA (updA (I 282) 7 (nI f)) 8 (nI (pz X n i)), ?_, h1, h5, by omega, by rw [rowUp_same, updA_ne _ _ (by omega), updA_same], by rw [rowUp_same, updA_same]⟩
  unfold mX2_fail
  rw [if_pos s282, sI_ok s282, obind, setI_hk, hpI_hk', gPI, obind, rowUp_same, updA_ne _ _ (by omega), h.2.2.2.2.2.1, if_neg (nI_pos (by omega)), obind, gTok, g103, RF_103_1, aLen_r (k := 481) rfl, obind, c_lt (by omega) (by omega), gTok, g103, RF_103_1, obind, ldI_ok (n := 481) rfl (by omega) (by omega), obind, hpI_hk, rowUp_ne _ _ (by omega), h.kd.2.1, sI_ok s282, obind, setI_hk, hpI_hk', rowUp_same, rowUp_two]
/-- the model is wrong -/
theorem wrong_ok (h : PMk J M X n i) {f : Nat} (h1 : 1 ≤ f) (h5 : f ≤ 5) : ∃ u, mX12_wrong 433 (nI f) (hk σ J M) = some (hk σ (rowUp J 433 u) M) ∧ MFl (rowUp J 433 u) (if ck X n (pz X n i) = 1 then 1 else f) (pz X n i) ∧ MF2 J M (rowUp J 433 u) M := by
  have hp := pz_le X n i
  have hn := h.1.1
  have hk1 : (mtk X n (pz X n i) = 1 ↔ ck X n (pz X n i) = 1) ∧ mtk X n (pz X n i) < 100 := by
    rcases tkc_all X n (pz X n i) with ⟨_, e1, e2⟩ | ⟨_, e1, e2⟩ | ⟨w', _, hw', e1, e2, e3⟩ | ⟨l, _, hl, e1, e2, e3, e4, e5⟩ | ⟨_, e1, e2, e3, e4⟩ | ⟨_, e1, e2, e3⟩
    · omega
    · omega
    · omega
    · omega
    · omega
    · have := mrk_c e1; omega
  have hf : 1 ≤ (if ck X n (pz X n i) = 1 then 1 else f) ∧ (if ck X n (pz X n i) = 1 then 1 else f) ≤ 5 := by split <;> omega
  refine ⟨updA (updA (J 433) 17 (nI (if ck X n (pz X n i) = 1 then 1 else f))) 18 (nI (pz X n i)), ?_, ⟨hf.1, hf.2, by omega, by rw [rowUp_same, updA_ne _ _ (by omega), updA_same], by rw [rowUp_same, updA_same]⟩, ?_⟩
  · unfold mX12_wrong mX12_wrong_b22
    rw [if_pos s433, gMI, obind, if_pos h.2.2, gMI, obind, h.2.1.2.2.1, c_1 (by omega)]
    by_cases q : ck X n (pz X n i) = 1
    · rw [if_pos (hk1.1.mpr q), if_pos q, sI_ok s433, obind, setI_hk, hpI_hk', gMI, obind, rowUp_same, updA_ne _ _ (by omega), h.2.1.2.1, sI_ok s433, obind, setI_hk, hpI_hk', rowUp_same, rowUp_two, nI_n1]
    · rw [if_neg (fun z => q (hk1.1.mp z)), if_neg q, sI_ok s433, obind, setI_hk, hpI_hk', gMI, obind, rowUp_same, updA_ne _ _ (by omega), h.2.1.2.1, sI_ok s433, obind, setI_hk, hpI_hk', rowUp_same, rowUp_two]
  · have e : M = rowUp M 433 (M 433) := (rowUp_id M 433).symm
    have := MF2.up (J := J) (M := M) (u := updA (updA (J 433) 17 (nI (if ck X n (pz X n i) = 1 then 1 else f))) 18 (nI (pz X n i))) (q := M 433) (fun k hk' => by rw [updA_ne _ _ (by omega), updA_ne _ _ (by omega)]) (fun _ _ => rfl)
    rw [← e] at this
    exact this
theorem MFl.ne {fl pl : Nat} (h : MFl J fl pl) : J 433 17 ≠ 0 := by
  rw [h.2.2.2.1]
  intro q
  rw [nI_z (by have := h.2.1; omega)] at q
  have := h.1; omega
/-- once wrong -/
theorem wrong_bad {fl pl : Nat} (h : MFl J fl pl) (f : Int32) : mX12_wrong 433 f (hk σ J M) = some (hk σ J M) := by
  unfold mX12_wrong
  rw [if_pos s433, gMI, obind, if_neg h.ne]
theorem passes_bad {fl pl : Nat} (h : MFl J fl pl) : mX12_passes 433 (hk σ J M) = some (hk σ J M) := by
  unfold mX12_passes
  rw [if_pos s433, gMI, obind, if_neg h.ne]
theorem must_bad {fl pl : Nat} (h : MFl J fl pl) (v : Int32) : mX12_must 433 v (hk σ J M) = some (hk σ J M) := by
  unfold mX12_must mX12_must_b9
  rw [if_pos s433, wrong_bad h, obind, passes_bad h, obind]
  by_cases q : v = 0
  · rw [if_pos q]
  · rw [if_neg q]
theorem room_bad {fl pl : Nat} (h : MFl J fl pl) (v w : Int32) : mX12_room 433 v w (hk σ J M) = some (hk σ J M) := by
  unfold mX12_room mX12_room_b10
  rw [if_pos s433, wrong_bad h, obind, passes_bad h, obind]
  by_cases q : v = w
  · rw [if_pos q]
  · rw [if_neg q]
/-- one token on -/
theorem PMk.nx (h : PMk J M X n i) : ∃ u q, mX12_next 433 (hk σ J M) = some (hk σ (rowUp J 433 u) (rowUp M 433 q)) ∧ PMk (rowUp J 433 u) (rowUp M 433 q) X n (i + 1) ∧ MF2 J M (rowUp J 433 u) (rowUp M 433 q) := by
  have hle : te X n (pz X n i) ≤ n := by
    by_cases q : n ≤ pz X n i
    · unfold te; rw [if_pos q]; exact Nat.le_refl _
    · exact (te_gt (by omega)).2
  obtain ⟨u, q, e, h1, h2, h3⟩ := next_ok (σ := σ) (L := M) h.1 hle h.2.1.1
  refine ⟨u, q, e, ⟨⟨h.1.1, by rw [rowUp_same, h2 11 (by omega) (by omega) (by omega) (by omega)]; exact h.1.2.1, fun i hi => by rw [rowUp_ne _ _ (by omega)]; exact h.1.2.2 i hi⟩, h1, by rw [rowUp_same, h2 17 (by omega) (by omega) (by omega) (by omega)]; exact h.2.2⟩, MF2.up (fun k hk' => h2 k (by omega) (by omega) (by omega) (by omega)) h3⟩
theorem PMk.ps (h : PMk J M X n i) : ∃ u q, mX12_passes 433 (hk σ J M) = some (hk σ (rowUp J 433 u) (rowUp M 433 q)) ∧ PMk (rowUp J 433 u) (rowUp M 433 q) X n (i + 1) ∧ MF2 J M (rowUp J 433 u) (rowUp M 433 q) := by
  obtain ⟨u, q, e, r⟩ := PMk.nx (σ := σ) h
  refine ⟨u, q, ?_, r⟩
  unfold mX12_passes
  rw [if_pos s433, gMI, obind, if_pos h.2.2, e, obind]
end Parse
