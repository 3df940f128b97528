section Q8
variable {σ : Sg} {I I' I1 I2 : Nat → Nat → Int32} {L L' L1 L2 : Nat → Nat → Int64}
theorem nI_nm1 {a : Nat} (ha : a < 2 ^ 31) : ¬ nI a = -1 := by
  intro e
  have h := congrArg Int32.toInt e
  rw [nI_toInt ha, show (-1 : Int32).toInt = -1 from by decide] at h; omega
theorem nI_gm1 {a : Nat} (ha : a < 2 ^ 31) : (-1 : Int32) < nI a := by
  rw [Int32.lt_iff_toInt_lt, nI_toInt ha, show (-1 : Int32).toInt = -1 from by decide]; omega
theorem nI_ngm1 {a : Nat} (ha : a < 2 ^ 31) : ¬ nI a < (-1 : Int32) := by
  rw [Int32.lt_iff_toInt_lt, nI_toInt ha, show (-1 : Int32).toInt = -1 from by decide]; omega
theorem mmax_m1 {a : Nat} (ha : a < 2 ^ 31) : mmax (nI a) (-1) = nI a := by
  unfold mmax
  split
  · rename_i h; exact absurd h (by first | exact nI_ngm1 ha | (intro z; exact absurd z (by rw [Int32.le_iff_toInt_le, nI_toInt ha, show (-1 : Int32).toInt = -1 from by decide]; omega)))
  · rfl
theorem mmax_1m {a : Nat} (ha : a < 2 ^ 31) : mmax (-1) (nI a) = nI a := by
  unfold mmax
  split
  · rfl
  · rename_i h; exact absurd (nI_gm1 ha) h
theorem fo_tr {S : Type} (st : S → Nat → S) (p : Nat → Bool) (z : S) (n : Nat) : ∃ (W : Nat → Nat) (F : Nat → S), F 0 = z ∧ (∀ i, i < cntB p n → F (i + 1) = st (F i) (W i) ∧ W i < n ∧ p (W i) = true ∧ cntB p (W i) = i) ∧ F (cntB p n) = fo st p z n ∧ ∀ i, ∃ m, F i = fo st p z m := by
  refine ⟨wi p n, fun i => fo st p z (wi p n i), fo_w0, fun i hi => ?_, fo_wn, fun i => ⟨_, rfl⟩⟩
  obtain ⟨a1, a2, a3⟩ := wi_ok (p := p) (n := n) (i := i) (by omega)
  exact ⟨fo_wi hi, (a3 hi).1, (a3 hi).2, a1⟩
theorem TaL.row {T N : Nat → Nat} (h : TaL T N I L 256) {i w : Nat} (hw : w < 256) (hp : isF T N w = true) (hi : cntB (isF T N) w = i) : I 427 i = nI (ws T N w) ∧ I 429 i = nI w ∧ I 428 i = nI (cntB (lk T N w) 256) ∧ L 430 i = lN (sm (wg T) (lk T N w) 256) := by
  have := h.2.1 _ hw hp
  rw [hi] at this; exact this
/-- the rows of sets won -/
def Wn (T N : Nat → Nat) (I : Nat → Nat → Int32) : Prop := ∀ w, w < 256 → ∃ s, s < 256 ∧ I 454 w = nI s ∧ (lft T N w = true → s = ws T N w)
theorem g454 : gR 12 38 433 (hk σ I L) = some 454 := rfl
theorem Wn.ld {T N : Nat → Nat} (h : Wn T N I) {w : Nat} (hw : w < 256) (hl : lft T N w = true) : ldI 454 (nI w) (hk σ I L) = some (nI (ws T N w)) := by
  obtain ⟨s, h1, h2, h3⟩ := h w hw
  rw [ldI_ok (n := 256) rfl hw (by omega), hpI_hk', h2, h3 hl]
theorem firstLike_ok {T N : Nat → Nat} (h : MI I T N) (hs : Wn T N I) {w : Nat} (hw : w < 256) (hl : lft T N w = true) : ∃ v, v ≤ w ∧ isF T N v = true ∧ ws T N v = ws T N w ∧ mX12_firstLike 433 (nI w) (hk σ I L) = some (nI v) := by
  have h18 := h.2.2.2.1.2.2.2.1.2
  obtain ⟨v, hv, hv1, hv2⟩ := isF_ex (T := T) (N := N) (n := w) (w := w) (Nat.le_refl _) hl
  refine ⟨v, hv, hv1, hv2, ?_⟩
  have b1 := ws_lt (T := T) h18 w
  unfold mX12_firstLike mX12_firstLike_l2
  rw [if_pos s433]
  refine lp_traj (f := fun s : Int32 => mX12_firstLike_l2f 433 (nI w) (hk σ I L) s) v (fun i => nI i) _ (fun i hi => ?_) ?_
  · show mX12_firstLike_l2f 433 (nI w) (hk σ I L) (nI i) = _
    have b2 := ws_lt (T := T) h18 i
    unfold mX12_firstLike_l2f mX12_firstLike_b25
    rw [h.left (show i < 256 by omega), obind, bI_if0]
    rcases Bool.eq_false_or_eq_true (lft T N i) with q | q
    · rw [q, if_neg nTF, g454, obind, hs.ld (by omega) q, obind, obind, hs.ld hw hl, obind, c_eqd (by omega) (by omega), if_neg (show ¬ ws T N i = ws T N w from fun z => isF_no hv1 hi q (by rw [z, hv2])), nI_1]
    · rw [q, if_pos rfl, nI_1]
  · show mX12_firstLike_l2f 433 (nI w) (hk σ I L) (nI v) = _
    have b2 := ws_lt (T := T) h18 v
    unfold mX12_firstLike_l2f
    rw [h.left (show v < 256 by omega), isF_l hv1, obind, bI_if0, if_neg nTF, g454, obind, hs.ld (by omega) (isF_l hv1), obind, obind, hs.ld hw hl, obind, c_eqd (by omega) (by omega), if_pos hv2, xts]
theorem fst_is {T N : Nat → Nat} {v w : Nat} (hv : v ≤ w) (h1 : isF T N v = true) (h2 : ws T N v = ws T N w) : (v = w) = (isF T N w = true) := by
  apply propext
  constructor
  · intro e; rw [← e]; exact h1
  · intro e; exact isF_inj h1 e h2
theorem moutcomes_ok {T N : Nat → Nat} (h : MI I T N) : ∃ I2, mX12_outcomes 433 (hk σ I L) = some (nI (cntB (isF T N) 256), hk σ I2 L) ∧ FrM I L I2 L ∧ MI I2 T N ∧ (∀ k, k < N 18 → I2 450 k = nI (fst0 T (it N k 0))) ∧ Wn T N I2 := by
  obtain ⟨I2, e, f, m, hj, hs⟩ := laysWins_ok (σ := σ) (L := L) h
  refine ⟨I2, ?_, f, m, hj, hs⟩
  unfold mX12_outcomes mX12_outcomes_l8
  rw [if_pos s433, e, obind]
  refine lp_traj (f := fun s : Int32 × Int32 => mX12_outcomes_l8f 433 (hk σ I2 L) s.1 s.2) 256 (fun i => (nI (cntB (isF T N) i), nI i)) _ (fun i hi => ?_) ?_
  · show mX12_outcomes_l8f 433 (hk σ I2 L) (nI (cntB (isF T N) i)) (nI i) = some (Sum.inl (nI (cntB (isF T N) i + (if isF T N i = true then 1 else 0)), nI (i + 1)))
    unfold mX12_outcomes_l8f mX12_outcomes_b37 mX12_outcomes_b38
    rw [show (256 : Int32) = nI 256 from rfl, c_lt hi (by omega), m.left hi, obind, bI_if0]
    rcases Bool.eq_false_or_eq_true (lft T N i) with q | q
    · obtain ⟨v, v1, v2, v3, e2⟩ := firstLike_ok (σ := σ) (L := L) m hs hi q
      rw [q, if_neg nTF, e2, obind, c_eqd (by omega) (by omega), show (if v = i then some (Sum.inl (nI (cntB (isF T N) i) + 1, nI i + 1)) else some (Sum.inl (nI (cntB (isF T N) i) + 0, nI i + 1)) : Option ((Int32 × Int32) ⊕ (Int32 × Hp))) = if isF T N i = true then some (Sum.inl (nI (cntB (isF T N) i) + 1, nI i + 1)) else some (Sum.inl (nI (cntB (isF T N) i) + 0, nI i + 1)) from by simp only [fst_is v1 v2 v3]]
      rcases Bool.eq_false_or_eq_true (isF T N i) with q2 | q2
      · rw [q2, if_pos rfl, if_pos rfl, nI_1, nI_1]
      · rw [q2, if_neg (by decide), if_neg (by decide), nI_1, show (0 : Int32) = nI 0 from rfl, nI_add]
    · have : isF T N i = false := by unfold isF; rw [q]; rfl
      rw [q, if_pos rfl, this, if_neg (by decide), nI_1, show (0 : Int32) = nI 0 from rfl, nI_add]
  · show mX12_outcomes_l8f 433 (hk σ I2 L) (nI (cntB (isF T N) 256)) (nI 256) = _
    unfold mX12_outcomes_l8f
    rw [if_neg (by decide), xts]
/-- outcomes -/
theorem q_outcomes {T N : Nat → Nat} (h : CR σ I L T N) (hm : MI I T N) :
    ∃ v I1 L1 I2, mX11_outcomes 100 (hk σ I L) = some (v, hk σ I1 L1) ∧ mX12_outcomes 433 (hk σ I1 L1) = some (v, hk σ I2 L1) ∧ FrC I L I1 L1 ∧ FrM I1 L1 I2 L1 := by
  obtain ⟨I1, L1, e1, f1, _, t1⟩ := survey_ok h
  obtain ⟨I2, e2, f2, _⟩ := moutcomes_ok (σ := σ) (L := L1) (hm.frC f1)
  refine ⟨nI (cntB (isF T N) 256), I1, L1, I2, ?_, e2, f1, f2⟩
  unfold mX11_outcomes
  rw [if_pos s100, e1, obind, gTal, gI_o 5 (n := 6) rfl, obind, t1.1]
/-- award -/
def stA (T N : Nat → Nat) (o : Option (Nat × Nat × Nat)) (w : Nat) : Option (Nat × Nat × Nat) := match o with
  | none => some (aw T N (ws T N w), aw T N (ws T N w), w)
  | some (l, g, c) => some (min l (aw T N (ws T N w)), max g (aw T N (ws T N w)), if g < aw T N (ws T N w) then w else c)
def inA (T N : Nat → Nat) (o : Option (Nat × Nat × Nat)) (w : Nat) : Prop := ∃ l g c, o = some (l, g, c) ∧ l ≤ aw T N (ws T N w) ∧ aw T N (ws T N w) ≤ g
def eA (o : Option (Nat × Nat × Nat)) : Int32 × Int32 × Int32 := match o with
  | none => (nI 2147483647, -1, 0)
  | some (l, g, c) => (nI l, nI g, nI c)
def eM (o : Option (Nat × Nat × Nat)) : Int32 × Int32 × Int32 := match o with
  | none => (-1, -1, 0)
  | some (l, g, c) => (nI l, nI g, nI c)
theorem inA_1 {T N : Nat → Nat} (o : Option (Nat × Nat × Nat)) (w : Nat) : inA T N (stA T N o w) w := by
  rcases o with _ | ⟨l, g, c⟩
  · exact ⟨_, _, _, rfl, Nat.le_refl _, Nat.le_refl _⟩
  · exact ⟨_, _, _, rfl, Nat.min_le_right _ _, Nat.le_max_right _ _⟩
theorem inA_2 {T N : Nat → Nat} (o : Option (Nat × Nat × Nat)) (v w : Nat) (h : inA T N o v) : inA T N (stA T N o w) v := by
  obtain ⟨l, g, c, rfl, h1, h2⟩ := h
  exact ⟨_, _, _, rfl, Nat.le_trans (Nat.min_le_left _ _) h1, Nat.le_trans h2 (Nat.le_max_left _ _)⟩
theorem inA_3 {T N : Nat → Nat} (o : Option (Nat × Nat × Nat)) (v w : Nat) (e : ws T N v = ws T N w) (h : inA T N o v) : stA T N o w = o := by
  obtain ⟨l, g, c, rfl, h1, h2⟩ := h
  rw [e] at h1 h2
  show some (min l (aw T N (ws T N w)), max g (aw T N (ws T N w)), if g < aw T N (ws T N w) then w else c) = _
  rw [Nat.min_eq_left h1, Nat.max_eq_left h2, if_neg (by omega)]
def bdA (o : Option (Nat × Nat × Nat)) : Prop := match o with
  | none => True
  | some (l, g, _) => l ≤ 4995 ∧ g ≤ 4995
theorem stA_b {T N : Nat → Nat} (hW : WT T) (hN : WN T N) (p : Nat → Bool) : ∀ n, bdA (fo (stA T N) p none n)
  | 0 => trivial
  | n + 1 => by
    have ih := stA_b hW hN p n
    have ha := aw_le hW hN (ws T N n)
    rw [foS]
    generalize fo (stA T N) p none n = o at ih ⊢
    by_cases hp : p n = true
    · rw [if_pos hp]
      rcases o with _ | ⟨l, g, c⟩
      · exact ⟨ha, ha⟩
      · exact ⟨Nat.le_trans (Nat.min_le_right _ _) ha, Nat.max_le.mpr ⟨ih.2, ha⟩⟩
    · rw [if_neg hp]; exact ih
theorem q_award {T N : Nat → Nat} (h : CR σ I L T N) (hm : MI I T N) (y : Int32) :
    ∃ v I1 L1 I2, mX11_award 100 y (hk σ I L) = some (v, hk σ I1 L1) ∧ mX12_award 433 y (hk σ I1 L1) = some (v, hk σ I2 L1) ∧ FrC I L I1 L1 ∧ FrM I1 L1 I2 L1 := by
  have hW := h.2.1
  have hN := h.2.2.1
  have h18 := (h.2.2.1.bkH hW).1
  unfold mX11_award mX12_award
  rw [if_pos s100]
  rcases ixn y 3 (by omega) with ⟨j, hj, rfl, hdy⟩ | hdy
  · obtain ⟨I1, L1, e1, f1, _, t1⟩ := survey_ok h
    have hx : CR σ I1 L1 T N := h.fr f1
    obtain ⟨I2, e2, f2, m, hji, hs⟩ := laysWins_ok (σ := σ) (L := L1) (hm.frC f1)
    have fin := stA_b hW hN (isF T N) 256
    obtain ⟨w0, hw0, hl0⟩ := hN.2.2.2.2.2
    obtain ⟨v0, hv0, hv1, _⟩ := isF_ex (T := T) (N := N) (n := w0) (w := w0) (Nat.le_refl _) hl0
    obtain ⟨l, g, c, hlast, _, _⟩ : inA T N (fo (stA T N) (isF T N) none 256) v0 := fo_inc inA_1 inA_2 (by omega) hv1
    have ans : ∀ (z : Nat → Nat → Int32) (K : Nat → Nat → Int64), (if nI j = 0 then some (nI l, hk σ z K) else (if nI j = 1 then some (nI g, hk σ z K) else some (nI c, hk σ z K))) = some ((if j = 0 then nI l else if j = 1 then nI g else nI c), hk σ z K) := fun z K => by
      rcases (show j = 0 ∨ j = 1 ∨ j = 2 by omega) with rfl | rfl | rfl <;> rfl
    refine ⟨if j = 0 then nI l else if j = 1 then nI g else nI c, I1, L1, I2, ?_, ?_, f1, f2⟩
    · rw [if_neg (nI_pos (show j < 2 ^ 31 by omega)), if_neg (show ¬ (2 : Int32) < nI j from nI_nlt (a := 2) (b := j) (by omega) (by decide)), e1, obind]
      unfold mX11_award_l27
      obtain ⟨W, F, F0, Fs, Fz, Fm⟩ := fo_tr (stA T N) (isF T N) none 256
      rw [hlast] at Fz
      have Fb : ∀ i, bdA (F i) := fun i => by obtain ⟨m, hm⟩ := Fm i; rw [hm]; exact stA_b hW hN _ m
      have lc := cntB_le (isF T N) 256
      have key := lp_traj (f := fun s : Int32 × Int32 × Int32 × Int32 => mX11_award_l27f 100 (nI j) (hk σ I1 L1) s.1 s.2.1 s.2.2.1 s.2.2.2) (cntB (isF T N) 256) (fun i => ((eA (F i)).1, (eA (F i)).2.1, (eA (F i)).2.2, nI i)) (if j = 0 then nI l else if j = 1 then nI g else nI c, hk σ I1 L1) (fun i hi => ?_) ?_
      · rw [F0] at key; exact key
      · show mX11_award_l27f 100 (nI j) (hk σ I1 L1) (eA (F i)).1 (eA (F i)).2.1 (eA (F i)).2.2 (nI i) = some (Sum.inl ((eA (F (i + 1))).1, (eA (F (i + 1))).2.1, (eA (F (i + 1))).2.2, nI (i + 1)))
        obtain ⟨g1, g2, g3, g4⟩ := Fs i hi
        obtain ⟨p1, p2, _⟩ := t1.row g2 g3 g4
        have ha := aw_le hW hN (ws T N (W i))
        have hb := Fb i
        unfold mX11_award_l27f mX11_award_b87
        rw [gTal, gI_o 5 (n := 6) rfl, obind, t1.1, c_lt hi (by omega), gTal, g6, RF_426_0, at_r (n := 256) rfl (by omega) (by omega), obind, p1, cawardOf_ok hx (ws_lt h18 _), obind, gTal, g6, RF_426_2, at_r (n := 256) rfl (by omega) (by omega), obind, p2, g1, nI_1]
        generalize F i = o at hb ⊢
        rcases o with _ | ⟨l', g', c'⟩
        · show (if (-1 : Int32) < nI (aw T N (ws T N (W i))) then some (Sum.inl (mmin (nI 2147483647) (nI (aw T N (ws T N (W i)))), nI (aw T N (ws T N (W i))), nI (W i), nI (i + 1))) else _) = _
          rw [if_pos (nI_gm1 (by omega)), min_d (by omega) (by omega), Nat.min_eq_right (by omega)]; rfl
        · obtain ⟨hb1, hb2⟩ := hb
          show (if nI g' < nI (aw T N (ws T N (W i))) then some (Sum.inl (mmin (nI l') (nI (aw T N (ws T N (W i)))), nI (aw T N (ws T N (W i))), nI (W i), nI (i + 1))) else some (Sum.inl (mmin (nI l') (nI (aw T N (ws T N (W i)))), nI g', nI c', nI (i + 1)))) = some (Sum.inl (nI (min l' (aw T N (ws T N (W i)))), nI (max g' (aw T N (ws T N (W i)))), nI (if g' < aw T N (ws T N (W i)) then W i else c'), nI (i + 1)))
          rw [c_ltd (by omega) (by omega), min_d (by omega) (by omega)]
          by_cases q : g' < aw T N (ws T N (W i))
          · rw [if_pos q, if_pos q, Nat.max_eq_right (by omega)]
          · rw [if_neg q, if_neg q, Nat.max_eq_left (by omega)]
      · show mX11_award_l27f 100 (nI j) (hk σ I1 L1) (eA (F (cntB (isF T N) 256))).1 (eA (F (cntB (isF T N) 256))).2.1 (eA (F (cntB (isF T N) 256))).2.2 (nI (cntB (isF T N) 256)) = _
        unfold mX11_award_l27f
        rw [Fz, gTal, gI_o 5 (n := 6) rfl, obind, t1.1, c_nlt (Nat.le_refl _) (by omega)]
        show xt (if nI j = 0 then some (nI l, hk σ I1 L1) else (if nI j = 1 then some (nI g, hk σ I1 L1) else some (nI c, hk σ I1 L1))) = _
        rw [ans, xts]
    · rw [if_pos s433, in_2, hdy, obind, bI_if0, if_neg nTF, e2, obind]
      unfold mX12_award_l25
      have fend : fo (stA T N) (lft T N) none 256 = some (l, g, c) := by rw [fo_lft inA_1 inA_2 inA_3, hlast]
      obtain ⟨M, hM⟩ : ∃ M, M = fo (stA T N) (lft T N) none := ⟨_, rfl⟩
      have Ms : ∀ i, M (i + 1) = if lft T N i = true then stA T N (M i) i else M i := fun i => by rw [hM]; exact foS _ _ _ _
      have Mb : ∀ i, bdA (M i) := fun i => by rw [hM]; exact stA_b hW hN _ i
      rw [← hM] at fend
      have M0 : M 0 = none := by rw [hM]; rfl
      have key := lp_traj (f := fun s : Int32 × Int32 × Int32 × Int32 => mX12_award_l25f 433 (nI j) (hk σ I2 L1) s.1 s.2.1 s.2.2.1 s.2.2.2) 256 (fun i => ((eM (M i)).1, (eM (M i)).2.1, (eM (M i)).2.2, nI i)) (if j = 0 then nI l else if j = 1 then nI g else nI c, hk σ I2 L1) (fun i hi => ?_) ?_
      · rw [M0] at key; exact key
      · show mX12_award_l25f 433 (nI j) (hk σ I2 L1) (eM (M i)).1 (eM (M i)).2.1 (eM (M i)).2.2 (nI i) = some (Sum.inl ((eM (M (i + 1))).1, (eM (M (i + 1))).2.1, (eM (M (i + 1))).2.2, nI (i + 1)))
        have ha := aw_le hW hN (ws T N i)
        have hb := Mb i
        unfold mX12_award_l25f
        rw [show (256 : Int32) = nI 256 from rfl, c_lt hi (by omega), m.left hi, obind, bI_if0, Ms]
        rcases Bool.eq_false_or_eq_true (lft T N i) with q | q
        · obtain ⟨s, s1, s2, s3⟩ := hs i hi
          rw [q, if_neg nTF, if_pos rfl, mawardOf_ok m hji hi s2 s1, obind, s3 q]
          unfold mX12_award_b52
          rw [if_neg (nI_nm1 (by omega))]
          generalize M i = o at hb ⊢
          unfold mX12_award_b71 mX12_award_b76 mX12_award_b77 mX12_award_b91
          rcases o with _ | ⟨l', g', c'⟩
          · show (if (-1 : Int32) = -1 then (if (-1 : Int32) < nI (aw T N (ws T N i)) then some (Sum.inl (nI (aw T N (ws T N i)), mmax (-1) (nI (aw T N (ws T N i))), nI i, nI i + 1)) else _) else _) = _
            rw [if_pos rfl, if_pos (nI_gm1 (by omega)), mmax_1m (by omega), nI_1]; rfl
          · obtain ⟨hb1, hb2⟩ := hb
            show (if nI l' = -1 then _ else (if nI (aw T N (ws T N i)) < nI l' then (if nI g' < nI (aw T N (ws T N i)) then some (Sum.inl (nI (aw T N (ws T N i)), mmax (nI g') (nI (aw T N (ws T N i))), nI i, nI i + 1)) else some (Sum.inl (nI (aw T N (ws T N i)), mmax (nI g') (nI (aw T N (ws T N i))), nI c', nI i + 1))) else (if nI g' < nI (aw T N (ws T N i)) then some (Sum.inl (nI l', mmax (nI g') (nI (aw T N (ws T N i))), nI i, nI i + 1)) else some (Sum.inl (nI l', mmax (nI g') (nI (aw T N (ws T N i))), nI c', nI i + 1))))) = some (Sum.inl (nI (min l' (aw T N (ws T N i))), nI (max g' (aw T N (ws T N i))), nI (if g' < aw T N (ws T N i) then i else c'), nI (i + 1)))
            rw [if_neg (nI_nm1 (by omega)), c_ltd (by omega) (by omega), c_ltd (by omega) (by omega), c_ltd (by omega) (by omega), max_d (by omega) (by omega), nI_1]
            by_cases q1 : aw T N (ws T N i) < l'
            · rw [if_pos q1, Nat.min_eq_right (by omega)]
              by_cases q2 : g' < aw T N (ws T N i)
              · rw [if_pos q2, if_pos q2]
              · rw [if_neg q2, if_neg q2]
            · rw [if_neg q1, Nat.min_eq_left (by omega)]
              by_cases q2 : g' < aw T N (ws T N i)
              · rw [if_pos q2, if_pos q2]
              · rw [if_neg q2, if_neg q2]
        · rw [q, if_pos rfl, if_neg (show ¬ false = true by decide)]
          unfold mX12_award_b52 mX12_award_b76 mX12_award_b77 mX12_award_b91
          rw [if_pos rfl]
          generalize M i = o at hb ⊢
          rcases o with _ | ⟨l', g', c'⟩
          · show (if (-1 : Int32) < -1 then _ else some (Sum.inl ((-1 : Int32), mmax (-1) (-1), (0 : Int32), nI i + 1))) = _
            rw [if_neg (by decide), nI_1]; rfl
          · obtain ⟨hb1, hb2⟩ := hb
            show (if nI g' < -1 then _ else some (Sum.inl (nI l', mmax (nI g') (-1), nI c', nI i + 1))) = _
            rw [if_neg (nI_ngm1 (by omega)), mmax_m1 (by omega), nI_1]; rfl
      · show mX12_award_l25f 433 (nI j) (hk σ I2 L1) (eM (M 256)).1 (eM (M 256)).2.1 (eM (M 256)).2.2 (nI 256) = _
        unfold mX12_award_l25f
        rw [fend, if_neg (by decide)]
        show xt (if nI j = 0 then some (nI l, hk σ I2 L1) else (if nI j = 1 then some (nI g, hk σ I2 L1) else some (nI c, hk σ I2 L1))) = _
        rw [ans, xts]
  · refine ⟨-1, I, L, I, ?_, ?_, FrC.rf, FrM.rf⟩
    · rcases ix_cases y with hy | ⟨j, hj, rfl⟩
      · rw [if_pos hy]
      · rw [nI_toInt hj] at hdy
        have := of_decide_eq_false hdy
        rw [if_neg (nI_pos hj), if_pos (show (2 : Int32) < nI j from nI_lt (show 2 < j by omega) hj)]
    · rw [if_pos s433, in_2, obind, bI_if0, hdy, if_pos rfl]
end Q8
