section MFAIL
variable {σ : Sg} {I : Nat → Nat → Int32} {L : Nat → Nat → Int64}
theorem mbackBy_ok {N B : Nat → Nat} (hN : rN I N) (h18 : N 18 ≤ 8) (h4 : ∀ o, o < N 18 → it N o 4 < 256 ∧ it N o 1 ≤ 9999) {k S : Nat} (hk' : k < N 18) (hS : S < 256) (hB : ∀ o, o < N 18 → I 449 o = nI (B o) ∧ B o < 2147483648) :
    mX12_backBy 433 (nI k) (nI S) (hk σ I L) = some (nI (bkF B N k S (N 18))) := by
  unfold mX12_backBy mX12_backBy_l10
  rw [if_pos s433, its_1 hN (by omega), obind]
  have h1 := (h4 k hk').2
  by_cases h0 : S = 0
  · subst h0
    refine lp_inr ?_
    show mX12_backBy_l10f 433 (nI k) (nI 0) (hk σ I L) (nI (it N k 1)) (nI 0) = _
    unfold mX12_backBy_l10f
    rw [g438, L18, ldN hN (by omega), obind, c_lt (by omega) (by omega), if_pos (show nI 0 = 0 from rfl), xts, bkF_0]
  · refine lp_traj (f := fun s : Int32 × Int32 => mX12_backBy_l10f 433 (nI k) (nI S) (hk σ I L) s.1 s.2) (N 18) (fun o => (nI (bkF B N k S o), nI o)) _ (fun o ho => ?_) ?_
    · show mX12_backBy_l10f 433 (nI k) (nI S) (hk σ I L) (nI (bkF B N k S o)) (nI o) = _
      have h2 := h4 o ho
      have hand : it N o 4 &&& S < 256 := Nat.lt_of_le_of_lt Nat.and_le_right hS
      have p1 := pc_le (it N o 4 &&& S)
      have p2 := pc_le S
      have hb := bkF_le B N k S o
      unfold mX12_backBy_l10f mX12_backBy_b79
      rw [g438, L18, ldN hN (by omega), obind, c_lt ho (by omega), c_0 (by omega), if_neg h0, its_4 hN (by omega), obind, its_1 hN (by omega), obind, its_1 hN (by omega), obind, c_ltd (by omega) (by omega), nx_and, mbits_b, mbits_b, cnt32 hand, cnt32 hS, L2, pk_mul, c_ltd (by omega) (by omega)]
      rw [show gR 12 29 433 (hk σ I L) = some 449 from rfl, obind, ldI_ok (n := 8) rfl (by omega) (by omega), obind, hpI_hk, (hB o ho).1, min_d (by omega) (hB o ho).2, nI_1]
      simp only [bkF]
      by_cases c1 : it N o 1 < it N k 1
      · rw [if_pos c1]
        by_cases c2 : 2 * pc (it N o 4 &&& S) < pc S
        · rw [if_pos c2, if_neg (by omega)]
        · rw [if_neg c2, if_pos ⟨h0, c1, by omega⟩]
      · rw [if_neg c1, if_neg (fun h => c1 h.2.1)]
    · show mX12_backBy_l10f 433 (nI k) (nI S) (hk σ I L) (nI (bkF B N k S (N 18))) (nI (N 18)) = _
      unfold mX12_backBy_l10f
      rw [g438, L18, ldN hN (by omega), obind, c_nlt (Nat.le_refl _) (by omega), xts]
theorem bk_one {N B : Nat → Nat} {k : Nat} (hk' : k ≤ N 18) (hm : ∀ o, k ≤ o → o < N 18 → it N k 1 ≤ it N o 1) (hB : ∀ o, o < k → B o = bk N o) : bkF B N k (it N k 4) (N 18) = bk N k := by
  rw [bkF_cut hk' hm, bk_eq]
  exact bkF_congr fun o ho _ => hB o ho
def bkH (N : Nat → Nat) : Prop := N 18 ≤ 8 ∧ (∀ o, o < N 18 → it N o 4 < 256 ∧ it N o 1 ≤ 9999) ∧ ∀ k o, k ≤ o → o < N 18 → it N k 1 ≤ it N o 1
theorem mlb_in {N : Nat → Nat} (hN : rN I N) (hb : bkH N) (x1 : Int32) : ∀ (d k : Nat) (r : Nat → Int32) (B : Nat → Nat), k + d = N 18 → (∀ o, o < N 18 → r o = nI (B o) ∧ B o ≤ 9999) → (∀ o, o < k → B o = bk N o) →
    ∃ r', mX12_laysBacks_l46 433 x1 (nI k) (hk σ (rowUp I 449 r) L) = some (.inl (x1 + 1, hk σ (rowUp I 449 r') L)) ∧ ∀ o, o < N 18 → r' o = nI (bk N o) := by
  intro d
  obtain ⟨h18, h4, hm⟩ := hb
  have hN' : ∀ r, rN (rowUp I 449 r) N := fun r i hi => by rw [rowUp_at, if_neg (by omega)]; exact hN i hi
  induction d with
  | zero =>
    intro k r B hk' hr hB
    refine ⟨r, ?_, fun o ho => by rw [(hr o ho).1, hB o (by omega)]⟩
    have : k = N 18 := by omega
    subst this
    unfold mX12_laysBacks_l46
    refine lp_inr ?_
    show mX12_laysBacks_l46f 433 x1 (nI (N 18)) _ = _
    unfold mX12_laysBacks_l46f
    rw [g438, L18, ldN (hN' r) (by omega), obind, c_nlt (Nat.le_refl _) (by omega)]; rfl
  | succ d ih =>
    intro k r B hk' hr hB
    have hkl : k < N 18 := by omega
    have e1 := bk_one (B := B) (by omega) (hm k) hB
    have hstep : mX12_laysBacks_l46f 433 x1 (nI k) (hk σ (rowUp I 449 r) L) = some (.inl (nI (k + 1), hk σ (rowUp I 449 (updA r k (nI (bk N k)))) L)) := by
      unfold mX12_laysBacks_l46f
      rw [g438, L18, ldN (hN' r) (by omega), obind, c_lt hkl (by omega), show gR 12 29 433 (hk σ (rowUp I 449 r) L) = some 449 from rfl, obind, its_4 (hN' r) (by omega), obind, mbackBy_ok (B := B) (hN' r) h18 h4 hkl (h4 k hkl).1 (fun o ho => by rw [rowUp_same]; exact ⟨(hr o ho).1, by have := (hr o ho).2; omega⟩), obind, e1, stI_ok (n := 8) rfl (by omega) (by omega), obind, setI_hk, rowUp_two, hpI_hk', rowUp_same, nI_1]
    obtain ⟨r', e, hr'⟩ := ih (k + 1) (updA r k (nI (bk N k))) (updA B k (bk N k)) (by omega) (fun o ho => by
      rw [updA_at, updA_at]
      by_cases eo : o = k
      · rw [if_pos eo, if_pos eo]
        have := bk_le N k
        have := (h4 k hkl).2
        exact ⟨rfl, by omega⟩
      · rw [if_neg eo, if_neg eo]; exact hr o ho) (fun o ho => by
      rw [updA_at]
      by_cases eo : o = k
      · rw [if_pos eo, eo]
      · rw [if_neg eo]; exact hB o (by omega))
    refine ⟨r', ?_, hr'⟩
    unfold mX12_laysBacks_l46 at e ⊢
    rw [lp_inl (f := fun s : Int32 × Hp => mX12_laysBacks_l46f 433 x1 s.1 s.2) (s := (nI k, hk σ (rowUp I 449 r) L)) hstep]
    exact e
theorem mlaysBacks_ok {N : Nat → Nat} (hN : rN I N) (hb : bkH N) : ∃ r, mX12_laysBacks 433 (hk σ I L) = some (hk σ (rowUp I 449 r) L) ∧ ∀ o, o < N 18 → r o = nI (bk N o) := by
  obtain ⟨h18, h4, hm⟩ := id hb
  have hN' : ∀ r, rN (rowUp I 449 r) N := fun r i hi => by rw [rowUp_at, if_neg (by omega)]; exact hN i hi
  have second : ∀ r, (∀ o, o < N 18 → r o = nI (it N o 1)) → ∃ r', mX12_laysBacks_l33 433 1 (hk σ (rowUp I 449 r) L) = some (hk σ (rowUp I 449 r') L) ∧ ∀ o, o < N 18 → r' o = nI (bk N o) := by
    intro r hr
    unfold mX12_laysBacks_l33
    have key := lp_invX (f := fun s : Int32 × Hp => mX12_laysBacks_l33f 433 s.1 s.2) (max 1 (N 18)) (fun i st => ∃ (r : Nat → Int32) (B : Nat → Nat), 1 ≤ i ∧ st = (nI i, hk σ (rowUp I 449 r) L) ∧ (∀ o, o < N 18 → r o = nI (B o) ∧ B o ≤ 9999) ∧ ∀ o, o < N 18 → (2 ≤ i ∨ o = 0) → B o = bk N o)
      (fun h' => ∃ r', h' = hk σ (rowUp I 449 r') L ∧ ∀ o, o < N 18 → r' o = nI (bk N o))
      (fun i st hi hQ => by
        obtain ⟨r, B, h1i, rfl, hr, hB⟩ := hQ
        refine Or.inl ?_
        show ∃ t, mX12_laysBacks_l33f 433 (nI i) _ = some (.inl t) ∧ _
        unfold mX12_laysBacks_l33f
        rw [g438, L18, ldN (hN' r) (by omega), obind]
        by_cases hlt : i < N 18
        · rw [c_lt hlt (by omega)]
          obtain ⟨r', e, hr'⟩ := mlb_in (σ := σ) (L := L) hN hb (nI i) (N 18) 0 r B (by omega) hr (fun o ho => absurd ho (Nat.not_lt_zero _))
          rw [show (0 : Int32) = nI 0 from rfl, e]
          refine ⟨_, rfl, r', bk N, by omega, by rw [nI_1], fun o ho => ⟨hr' o ho, ?_⟩, fun o ho _ => rfl⟩
          have := bk_le N o
          have := (h4 o ho).2
          omega
        · exfalso
          rw [Nat.max_def] at hi
          split at hi <;> omega)
      (fun st hQ => by
        obtain ⟨r, B, h1i, rfl, hr, hB⟩ := hQ
        refine ⟨_, ?_, r, rfl, fun o ho => by rw [(hr o ho).1, hB o ho (by rw [Nat.max_def]; split <;> omega)]⟩
        show mX12_laysBacks_l33f 433 (nI (max 1 (N 18))) _ = _
        unfold mX12_laysBacks_l33f
        rw [g438, L18, ldN (hN' r) (by omega), obind, c_nlt (Nat.le_max_right _ _) (by omega)]; rfl)
      (i := 1) (s := (nI 1, hk σ (rowUp I 449 r) L)) (Nat.le_max_left _ _) ⟨r, fun o => it N o 1, Nat.le_refl _, rfl, fun o ho => ⟨hr o ho, (h4 o ho).2⟩, fun o ho h => by
        have : o = 0 := by omega
        subst this
        show it N 0 1 = bk N 0
        rw [bk_eq]; rfl⟩
    obtain ⟨h', e, r', rfl, hr'⟩ := key
    exact ⟨r', e, hr'⟩
  unfold mX12_laysBacks
  rw [if_pos s433]
  unfold mX12_laysBacks_l2
  have h0 : hk σ I L = hk σ (rowUp I 449 (I 449)) L := by rw [rowUp_id]
  rw [h0]
  have key := lp_inv (f := fun s : Int32 × Hp => mX12_laysBacks_l2f 433 s.1 s.2) (N 18) (fun i st => ∃ r, st = (nI i, hk σ (rowUp I 449 r) L) ∧ ∀ o, o < i → r o = nI (it N o 1))
    (fun h' => ∃ r', h' = hk σ (rowUp I 449 r') L ∧ ∀ o, o < N 18 → r' o = nI (bk N o))
    (fun i st hi hQ => by
      obtain ⟨r, rfl, hr⟩ := hQ
      refine ⟨(nI (i + 1), hk σ (rowUp I 449 (updA r i (nI (it N i 1)))) L), ?_, _, rfl, fun o ho => ?_⟩
      · show mX12_laysBacks_l2f 433 (nI i) _ = _
        unfold mX12_laysBacks_l2f
        rw [g438, L18, ldN (hN' r) (by omega), obind, c_lt hi (by omega), show gR 12 29 433 (hk σ (rowUp I 449 r) L) = some 449 from rfl, obind, its_1 (hN' r) (by omega), obind, stI_ok (n := 8) rfl (by omega) (by omega), obind, setI_hk, rowUp_two, hpI_hk', rowUp_same, nI_1]
      · rw [updA_at]
        by_cases eo : o = i
        · rw [if_pos eo, eo]
        · rw [if_neg eo]; exact hr o (by omega))
    (fun st hQ => by
      obtain ⟨r, rfl, hr⟩ := hQ
      obtain ⟨r', e, hr'⟩ := second r hr
      refine ⟨_, ?_, r', rfl, hr'⟩
      show mX12_laysBacks_l2f 433 (nI (N 18)) _ = _
      unfold mX12_laysBacks_l2f
      rw [g438, L18, ldN (hN' r) (by omega), obind, c_nlt (Nat.le_refl _) (by omega), e]; rfl)
    (s := (nI 0, hk σ (rowUp I 449 (I 449)) L)) ⟨_, rfl, fun o ho => absurd ho (Nat.not_lt_zero _)⟩
  obtain ⟨h', e, r', rfl, hr'⟩ := key
  exact ⟨r', e, hr'⟩
def mI (o : Option Nat) (g : Nat → Bool) : Bool := match o with
  | some p => g p
  | none => false
theorem mI_some (p : Nat) (g : Nat → Bool) : mI (some p) g = g p := rfl
theorem ith_any (q g : Nat → Bool) (n : Nat) : anyB (fun i => mI (ith q n i) g) (cntB q n) = anyB (fun p => q p && g p) n := by
  apply Bool.eq_iff_iff.mpr
  rw [anyB_iff, anyB_iff]
  constructor
  · rintro ⟨i, hi, h⟩
    cases hp : ith q n i with
    | none => rw [hp] at h; cases h
    | some p =>
      rw [hp] at h
      obtain ⟨h1, h2, _⟩ := fstB_some.mp hp
      refine ⟨p, h1, ?_⟩
      simp only [Bool.and_eq_true] at h2 ⊢
      exact ⟨h2.1, h⟩
  · rintro ⟨p, hp, h⟩
    simp only [Bool.and_eq_true] at h
    have hlt : cntB q p < cntB q n := by
      have := cntB_mono q (show p + 1 ≤ n by omega)
      simp only [cntB] at this
      rw [h.1] at this; simp at this; omega
    refine ⟨cntB q p, hlt, ?_⟩
    have : ith q n (cntB q p) = some p := fstB_some.mpr ⟨hp, by rw [h.1]; simp, fun j hj => by
      cases hq : q j
      · rfl
      · have := cntB_mono q (show j + 1 ≤ p by omega)
        simp only [cntB] at this
        rw [hq] at this; simp at this ⊢; omega⟩
    rw [this]; exact h.2
theorem sure_lt {T : Nat → Nat} {f : Nat → Bool} {e : Nat} (hf : ∀ w, f w = true → w < 2 ^ T 1) : allB (fun w => !f w || (decide (w < 2 ^ T 1) && ev T e w)) 256 = sure T f e := by
  unfold sure
  apply allB_congr
  intro w hw
  cases h : f w
  · rfl
  · rw [decide_eq_true (hf w h)]; rfl
theorem agr_lt {T : Nat → Nat} {F S w : Nat} (h : agr T F S w = true) : w < 2 ^ T 1 := by
  unfold agr poss at h
  simp only [Bool.and_eq_true, decide_eq_true_eq] at h
  exact h.1.1
theorem meets_lt {T : Nat → Nat} {f : Nat → Bool} {e : Nat} (hf : ∀ w, f w = true → w < 2 ^ T 1) : (cntB (fun w => f w && (decide (w < 2 ^ T 1) && ev T e w)) 256 = 0) ↔ meets T f e = false := by
  rw [cntB_0]
  have : anyB (fun w => f w && (decide (w < 2 ^ T 1) && ev T e w)) 256 = meets T f e := anyB_congr fun w hw => by
    cases h : f w
    · rfl
    · rw [decide_eq_true (hf w h)]; rfl
  rw [this]
end MFAIL
