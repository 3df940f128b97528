/-! what the class answers, by T and N: chances, awards, outcomes -/
section C2
variable {σ : Sg} {I I' I1 I2 : Nat → Nat → Int32} {L L' L1 L2 : Nat → Nat → Int64} {T N : Nat → Nat}
theorem eu_gcd (c r : Nat) : ∀ n, (∀ i, i < n → 0 < (eu c r i).2) → Nat.gcd (eu c r n).1 (eu c r n).2 = Nat.gcd c r
  | 0, _ => rfl
  | n + 1, h => by
    have ih := eu_gcd c r n (fun i hi => h i (by omega))
    show Nat.gcd (eu c r n).2 ((eu c r n).1 % (eu c r n).2) = _
    rw [← ih, Nat.gcd_comm (eu c r n).2, ← Nat.gcd_rec, Nat.gcd_comm]
/-- a part by the whole, in lowest terms -/
theorem c_low {p w : Nat} (hp : p < 2 ^ 62) (hw0 : 0 < w) (hw : w < 2 ^ 62) (x : Int32) : mX11_inLowestTerms (lN p) (lN w) x = some (if x = 0 then lN (p / Nat.gcd w p) else lN (w / Nat.gcd w p)) := by
  obtain ⟨n, h1, h2, h3, h4, h5⟩ := eu_end 62 w p hp hw0
  have hb : ∀ i, i ≤ n → (eu w p i).1 < 2 ^ 62 ∧ (eu w p i).2 < 2 ^ 62 := fun i hi => by have := h5 i hi; omega
  have eg : Nat.gcd w p = (eu w p n).1 := by rw [← eu_gcd w p n h4, h2, Nat.gcd_zero_right]
  rw [eg]
  unfold mX11_inLowestTerms mX11_inLowestTerms_l9
  refine lp_traj (f := fun s : Int64 × Int64 × Int32 => mX11_inLowestTerms_l9f (lN p) (lN w) x s.1 s.2.1 s.2.2) n (fun i => (lN (eu w p i).1, lN (eu w p i).2, nI i)) _ (fun i hi => ?_) ?_
  · show mX11_inLowestTerms_l9f (lN p) (lN w) x (lN (eu w p i).1) (lN (eu w p i).2) (nI i) = _
    have b := hb i (by omega)
    have b0 := h4 i hi
    unfold mX11_inLowestTerms_l9f
    rw [show (200 : Int32) = nI 200 from rfl, c_lt (show i < 200 by omega) (by omega), if_neg (by rw [lN_0 b.2]; omega), nzL_n b0 b.2, lN_mod b.1 b0 b.2, nI_1]; rfl
  · show mX11_inLowestTerms_l9f (lN p) (lN w) x (lN (eu w p n).1) (lN (eu w p n).2) (nI n) = _
    have b := hb n (Nat.le_refl _)
    unfold mX11_inLowestTerms_l9f mX11_inLowestTerms_b45 mX11_inLowestTerms_b73
    rw [show (200 : Int32) = nI 200 from rfl, c_lt (show n < 200 by omega) (by omega), if_pos (by rw [lN_0 b.2]; exact h2), if_neg (show ¬ lg_cmp (lN (eu w p n).1) 0 = 0 by rw [lN_0 b.1]; omega), nzL_n h3 b.1, nzL_n h3 b.1, lN_div hp h3 b.1, lN_div hw h3 b.1]
    split <;> rfl
def pW (T N : Nat → Nat) (k : Nat) : Nat := sm (wg T) (fun w => lft T N w && won T (it N k 0) w) 256
def aW (T N : Nat → Nat) : Nat := sm (wg T) (lft T N) 256
/-- chance -/
theorem c_chance (h : CR σ I L T N) {k j : Nat} (hk' : k < N 18) (hj : j < 2) :
    ∃ L1, mX11_chance 100 (nI k) (nI j) (hk σ I L) = some (nI (if j = 0 then pW T N k / Nat.gcd (aW T N) (pW T N k) else aW T N / Nat.gcd (aW T N) (pW T N k)), hk σ I L1) ∧ FrC I L I L1 := by
  have hW := h.2.1
  have h18 := (h.2.2.1.bkH hW).1
  have hla := h.1.1
  unfold mX11_chance
  rw [if_pos s100, cisCount_ok h, obind, bI_if0, dIn hk' (by omega), if_neg nTF]
  rw [if_neg (nI_pos (show j < 2 ^ 31 by omega)), if_neg (show ¬ (1 : Int32) < nI j from nI_nlt (a := 1) (b := j) (by omega) (by decide))]
  obtain ⟨r, e1, hr⟩ := remember_ok h
  have h2 : CR σ I (rowUp L 415 r) T N := h.upL (by omega)
  obtain ⟨w1, w2, w3⟩ := h2.wonR hk'
  have a0 := (h.2.2.1.2.2.2.2.1 k hk').1
  have wk2 := hW.1.2.2.1
  obtain ⟨r', e2, hr'⟩ := and_ok (wLeft (σ := σ) (I := I) (L := rowUp L 415 r)) w1 (by omega) (by rw [hpL_hk'', rowUp_same]; exact hr) (by rw [hpL_hk'']; exact w2)
  rw [setL_hk, rowUp_two] at e2
  have h3 : CR σ I (rowUp L 415 r') T N := h.upL (by omega)
  have b1 := sm_b hW (lft T N) (n := 256) (Nat.le_refl _)
  have b2 := sm_b hW (fun w => lft T N w && won T (it N k 0) w) (n := 256) (Nat.le_refl _)
  have b3 : sm (wg T) (fun w => lft T N w && won T (it N k 0) w) 256 ≤ 11019960576 := b2
  have ans : (if nI j = 0 then lN (pW T N k / Nat.gcd (aW T N) (pW T N k)) else lN (aW T N / Nat.gcd (aW T N) (pW T N k))).toInt32 = nI (if j = 0 then pW T N k / Nat.gcd (aW T N) (pW T N k) else aW T N / Nat.gcd (aW T N) (pW T N k)) := by
    rcases (show j = 0 ∨ j = 1 by omega) with rfl | rfl
    · rw [if_pos (show nI 0 = 0 from rfl), if_pos rfl, lN_i]
    · rw [if_neg (by decide), if_neg (by omega), lN_i]
  refine ⟨rowUp L 415 r', ?_, FrC.rf.upL _ (by unfold scC; omega)⟩
  rw [e1, obind, gLa, gLeft, weigh_ok h2 (wLeft (σ := σ) (I := I) (L := rowUp L 415 r)) (by rw [rowUp_same]; exact hr), obind, gLeft, gLa, ckind_ok h2 hk', obind, w3, obind, e2, obind, gLa, gLeft, weigh_ok h3 (wLeft (σ := σ) (I := I) (L := rowUp L 415 r')) (by rw [rowUp_same]; exact hr'), obind, c_low (by omega) (all_pos hW h.2.2.1) (by omega), obind]
  rw [← ans]; rfl
/-- outcomes -/
theorem c_outcomes (h : CR σ I L T N) : ∃ I1 L1, mX11_outcomes 100 (hk σ I L) = some (nI (cntB (isF T N) 256), hk σ I1 L1) ∧ FrC I L I1 L1 := by
  obtain ⟨I1, L1, e1, f1, _, t1⟩ := survey_ok h
  refine ⟨I1, L1, ?_, f1⟩
  unfold mX11_outcomes
  rw [if_pos s100, e1, obind, gTal, gI_o 5 (n := 6) rfl, obind, t1.1]
/-- award: the least, the greatest, the first with the greatest -/
theorem c_award (h : CR σ I L T N) {j : Nat} (hj : j < 3) : ∃ l g c I1 L1, fo (stA T N) (isF T N) none 256 = some (l, g, c) ∧ mX11_award 100 (nI j) (hk σ I L) = some (if j = 0 then nI l else if j = 1 then nI g else nI c, hk σ I1 L1) ∧ FrC I L I1 L1 := by
  have hW := h.2.1
  have hN := h.2.2.1
  have h18 := (h.2.2.1.bkH hW).1
  unfold mX11_award
  rw [if_pos s100]
  obtain ⟨I1, L1, e1, f1, _, t1⟩ := survey_ok h
  have hx : CR σ I1 L1 T N := h.fr f1
  have fin := stA_b hW hN (isF T N) 256
  obtain ⟨w0, hw0, hl0⟩ := hN.2.2.2.2.2
  obtain ⟨v0, hv0, hv1, _⟩ := isF_ex (T := T) (N := N) (n := w0) (w := w0) (Nat.le_refl _) hl0
  obtain ⟨l, g, c, hlast, _, _⟩ : inA T N (fo (stA T N) (isF T N) none 256) v0 := fo_inc inA_1 inA_2 (by omega) hv1
  have ans : ∀ (z : Nat → Nat → Int32) (K : Nat → Nat → Int64), (if nI j = 0 then some (nI l, hk σ z K) else (if nI j = 1 then some (nI g, hk σ z K) else some (nI c, hk σ z K))) = some ((if j = 0 then nI l else if j = 1 then nI g else nI c), hk σ z K) := fun z K => by
    rcases (show j = 0 ∨ j = 1 ∨ j = 2 by omega) with rfl | rfl | rfl <;> rfl
  refine ⟨l, g, c, I1, L1, hlast, ?_, f1⟩
  rw [if_neg (nI_pos (show j < 2 ^ 31 by omega)), if_neg (show ¬ (2 : Int32) < nI j from nI_nlt (a := 2) (b := j) (by omega) (by decide)), e1, obind]
  unfold mX11_award_l27
  obtain ⟨W, F, F0, Fs, Fz, Fm⟩ := fo_tr (stA T N) (isF T N) none 256
  rw [hlast] at Fz
  have Fb : ∀ i, bdA (F i) := fun i => by obtain ⟨m, hm⟩ := Fm i; rw [hm]; exact stA_b hW hN _ m
  have lc := cntB_le (isF T N) 256
  have key := lp_traj (f := fun s : Int32 × Int32 × Int32 × Int32 => mX11_award_l27f 100 (nI j) (hk σ I1 L1) s.1 s.2.1 s.2.2.1 s.2.2.2) (cntB (isF T N) 256) (fun i => ((eA (F i)).1, (eA (F i)).2.1, (eA (F i)).2.2, nI i)) (if j = 0 then nI l else if j = 1 then nI g else nI c, hk σ I1 L1) (fun i hi => ?_) ?_
  · rw [F0] at key; exact key
  · show mX11_award_l27f 100 (nI j) (hk σ I1 L1) (eA (F i)).1 (eA (F i)).2.1 (eA (F i)).2.2 (nI i) = some (Sum.inl ((eA (F (i + 1))).1, (eA (F (i + 1))).2.1, (eA (F (i + 1))).2.2, nI (i + 1)))
    obtain ⟨g1, g2, g3, g4⟩ := Fs i hi
    obtain ⟨p1, p2, _⟩ := t1.row g2 g3 g4
    have ha := aw_le hW hN (ws T N (W i))
    have hb := Fb i
    unfold mX11_award_l27f mX11_award_b87
    rw [gTal, gI_o 5 (n := 6) rfl, obind, t1.1, c_lt hi (by omega), gTal, g6, RF_426_0, at_r (n := 256) rfl (by omega) (by omega), obind, p1, cawardOf_ok hx (ws_lt h18 _), obind, gTal, g6, RF_426_2, at_r (n := 256) rfl (by omega) (by omega), obind, p2, g1, nI_1]
    generalize F i = o at hb ⊢
    rcases o with _ | ⟨l', g', c'⟩
    · show (if (-1 : Int32) < nI (aw T N (ws T N (W i))) then some (Sum.inl (mmin (nI 2147483647) (nI (aw T N (ws T N (W i)))), nI (aw T N (ws T N (W i))), nI (W i), nI (i + 1))) else _) = _
      rw [if_pos (nI_gm1 (by omega)), min_d (by omega) (by omega), Nat.min_eq_right (by omega)]; rfl
    · obtain ⟨hb1, hb2⟩ := hb
      show (if nI g' < nI (aw T N (ws T N (W i))) then some (Sum.inl (mmin (nI l') (nI (aw T N (ws T N (W i)))), nI (aw T N (ws T N (W i))), nI (W i), nI (i + 1))) else some (Sum.inl (mmin (nI l') (nI (aw T N (ws T N (W i)))), nI g', nI c', nI (i + 1)))) = some (Sum.inl (nI (min l' (aw T N (ws T N (W i)))), nI (max g' (aw T N (ws T N (W i)))), nI (if g' < aw T N (ws T N (W i)) then W i else c'), nI (i + 1)))
      rw [c_ltd (by omega) (by omega), min_d (by omega) (by omega)]
      by_cases q : g' < aw T N (ws T N (W i))
      · rw [if_pos q, if_pos q, Nat.max_eq_right (by omega)]
      · rw [if_neg q, if_neg q, Nat.max_eq_left (by omega)]
  · show mX11_award_l27f 100 (nI j) (hk σ I1 L1) (eA (F (cntB (isF T N) 256))).1 (eA (F (cntB (isF T N) 256))).2.1 (eA (F (cntB (isF T N) 256))).2.2 (nI (cntB (isF T N) 256)) = _
    unfold mX11_award_l27f
    rw [Fz, gTal, gI_o 5 (n := 6) rfl, obind, t1.1, c_nlt (Nat.le_refl _) (by omega)]
    show xt (if nI j = 0 then some (nI l, hk σ I1 L1) else (if nI j = 1 then some (nI g, hk σ I1 L1) else some (nI c, hk σ I1 L1))) = _
    rw [ans, xts]
/-- outcome -/
theorem c_outcome (h : CR σ I L T N) {i j : Nat} (hi : i < cntB (isF T N) 256) (hj : j < 3) : ∃ w I1 L1, w < 256 ∧ isF T N w = true ∧ cntB (isF T N) w = i ∧ mX11_outcome 100 (nI i) (nI j) (hk σ I L) = some (if j = 0 then nI (ws T N w) else if j = 1 then nI (cntB (lk T N w) 256) else nI w, hk σ I1 L1) ∧ FrC I L I1 L1 := by
  have hW := h.2.1
  have hN := h.2.2.1
  have h18 := (h.2.2.1.bkH hW).1
  obtain ⟨I1, L1, e1, f1, _, t1⟩ := survey_ok h
  have lc := cntB_le (isF T N) 256
  unfold mX11_outcome
  rw [if_pos s100, e1, obind]
  obtain ⟨W, F, F0, Fs, _, _⟩ := fo_tr (fun (s : Nat) _ => s) (isF T N) 0 256
  have Wj : ∀ k, k < cntB (isF T N) 256 → W k < 256 ∧ isF T N (W k) = true ∧ cntB (isF T N) (W k) = k := fun k hk' => (Fs k hk').2
  obtain ⟨w1, w2, w3⟩ := Wj i hi
  obtain ⟨p1, p2, p3, _⟩ := t1.row w1 w2 w3
  have lk' := cntB_le (lk T N (W i)) 256
  refine ⟨W i, I1, L1, w1, w2, w3, ?_, f1⟩
  rw [if_neg (nI_pos (show i < 2 ^ 31 by omega)), gTal, gI_o 5 (n := 6) rfl, obind, t1.1, c_lt hi (by omega), tsw_n (by omega)]
  rcases (show j = 0 ∨ j = 1 ∨ j = 2 by omega) with rfl | rfl | rfl
  · rw [td0, gTal, g6, RF_426_0, at_r (n := 256) rfl (by omega) (by omega), obind, p1]; rfl
  · rw [td1, gTal, g6, RF_426_1, at_r (n := 256) rfl (by omega) (by omega), obind, p3]; rfl
  · rw [td2, gTal, g6, RF_426_2, at_r (n := 256) rfl (by omega) (by omega), obind, p2]; rfl
def mW (T N : Nat → Nat) : Nat := sm (fun w => aw T N (ws T N w) * wg T w) (lft T N) 256
/-- meant -/
theorem c_meant (h : CR σ I L T N) {j : Nat} (hj : j < 2) : ∃ I1 L1, mX11_meant 100 (nI j) (hk σ I L) = some (lN (if j = 0 then mW T N / Nat.gcd (aW T N) (mW T N) else aW T N / Nat.gcd (aW T N) (mW T N)), hk σ I1 L1) ∧ FrC I L I1 L1 := by
  have hW := h.2.1
  have hN := h.2.2.1
  have h18 := (h.2.2.1.bkH hW).1
  unfold mX11_meant
  rw [if_pos s100]
  obtain ⟨I1, L1, e1, f1, hl1, t1⟩ := survey_ok h
  have hx : CR σ I1 L1 T N := h.fr f1
  have lc := cntB_le (isF T N) 256
  have sort := sm_sort (T := T) (N := N) (aw T N) 256 (Nat.le_refl _)
  have b0 := sm_b hW (lft T N) (n := 256) (Nat.le_refl _)
  have bS : sm (fun w => aw T N (ws T N w) * wg T w) (lft T N) 256 ≤ 256 * (4995 * 43046721) := sm_le fun w _ => Nat.mul_le_mul (aw_le hW hN _) (wg_b hW w).2
  obtain ⟨P, hP⟩ : ∃ P, P = mW T N := ⟨_, rfl⟩
  obtain ⟨A, hA⟩ : ∃ A, A = aW T N := ⟨_, rfl⟩
  have hA0 : 0 < A := by rw [hA]; exact all_pos hW hN
  have hP' : P = sm (fun w => aw T N (ws T N w) * wg T w) (lft T N) 256 := hP
  have hA' : A = sm (wg T) (lft T N) 256 := hA
  rw [← hP'] at bS sort
  rw [← hA'] at b0
  rw [← hP, ← hA]
  have ans : (if nI j = 0 then lN (P / Nat.gcd A P) else lN (A / Nat.gcd A P)) = lN (if j = 0 then P / Nat.gcd A P else A / Nat.gcd A P) := by
    rcases (show j = 0 ∨ j = 1 by omega) with rfl | rfl
    · rw [if_pos (show nI 0 = 0 from rfl), if_pos rfl]
    · rw [if_neg (by decide), if_neg (by omega)]
  rw [← ans]
  refine ⟨I1, L1, ?_, f1⟩
  rw [if_neg (nI_pos (show j < 2 ^ 31 by omega)), if_neg (show ¬ (1 : Int32) < nI j from nI_nlt (a := 1) (b := j) (by omega) (by decide)), e1, obind]
  unfold mX11_meant_l22
  obtain ⟨W, F, F0, Fs, Fz, _⟩ := fo_tr (fun s w => s + aw T N (ws T N w) * sm (wg T) (lk T N w) 256) (isF T N) 0 256
  rw [fo_sm (fun w => aw T N (ws T N w) * sm (wg T) (lk T N w) 256), sort] at Fz
  have key := lp_traj (f := fun s : Int64 × Int32 => mX11_meant_l22f 100 (nI j) (hk σ I1 L1) s.1 s.2) (cntB (isF T N) 256) (fun i => (lN (F i), nI i)) (if nI j = 0 then lN (P / Nat.gcd A P) else lN (A / Nat.gcd A P), hk σ I1 L1) (fun i hi => ?_) ?_
  · rw [F0] at key; exact key
  · show mX11_meant_l22f 100 (nI j) (hk σ I1 L1) (lN (F i)) (nI i) = some (Sum.inl (lN (F (i + 1)), nI (i + 1)))
    obtain ⟨q1, q2, q3, q4⟩ := Fs i hi
    obtain ⟨p1, _, _, p4⟩ := t1.row q2 q3 q4
    have ha := aw_le hW hN (ws T N (W i))
    unfold mX11_meant_l22f
    rw [gTal, gI_o 5 (n := 6) rfl, obind, t1.1, c_lt hi (by omega), gTal, g6, RF_426_0, at_r (n := 256) rfl (by omega) (by omega), obind, p1, cawardOf_ok hx (ws_lt h18 _), obind, gTal, g6, RF_426_3, longAt_nI (n := 256) rfl (by omega) (by omega), obind, if_pos (show i < 256 by omega), hpL_hk'', p4, nI_l (by omega), lN_mul, lN_add, nI_1, q1]
  · show mX11_meant_l22f 100 (nI j) (hk σ I1 L1) (lN (F (cntB (isF T N) 256))) (nI (cntB (isF T N) 256)) = _
    unfold mX11_meant_l22f
    rw [Fz, gTal, gI_o 5 (n := 6) rfl, obind, t1.1, c_nlt (Nat.le_refl _) (by omega), gLa, gLeft, weigh_ok hx wLeft hl1, obind, ← hA', c_low (by omega) hA0 (by omega), obind, xts]
/-- elect -/
theorem c_elect (h : CR σ I L T N) {j : Nat} (hj : j < 2) : ∃ I1 L1, mX11_elect 100 (nI j) (hk σ I L) = some (if j = 0 then nI (pc (fo (stE T N) (isF T N) 0 256)) else nI (fo (stE T N) (isF T N) 0 256), hk σ I1 L1) ∧ FrC I L I1 L1 := by
  have hW := h.2.1
  have hN := h.2.2.1
  have h18 := (h.2.2.1.bkH hW).1
  unfold mX11_elect
  rw [if_pos s100]
  obtain ⟨I1, L1, e1, f1, hl1, t1⟩ := survey_ok h
  have hx : CR σ I1 L1 T N := h.fr f1
  have lc := cntB_le (isF T N) 256
  obtain ⟨B, hB⟩ : ∃ B, B = fo (stE T N) (isF T N) 0 256 := ⟨_, rfl⟩
  have hB2 : B < 256 := by rw [hB]; exact stE_b h18 _ _
  have pB := pc_le B
  rw [← hB]
  have ans : (if nI j = 0 then nI (pc B) else nI B) = (if j = 0 then nI (pc B) else nI B) := by
    rcases (show j = 0 ∨ j = 1 by omega) with rfl | rfl <;> rfl
  rw [← ans]
  refine ⟨I1, L1, ?_, f1⟩
  rw [if_neg (nI_pos (show j < 2 ^ 31 by omega)), if_neg (show ¬ (1 : Int32) < nI j from nI_nlt (a := 1) (b := j) (by omega) (by decide)), e1, obind]
  unfold mX11_elect_l19
  obtain ⟨W, F, F0, Fs, Fz, Fm⟩ := fo_tr (stE T N) (isF T N) 0 256
  rw [← hB] at Fz
  have Fb : ∀ i, F i < 256 := fun i => by obtain ⟨m, hm⟩ := Fm i; rw [hm]; exact stE_b h18 _ m
  have key := lp_traj (f := fun s : Int32 × Int32 => mX11_elect_l19f 100 (nI j) (hk σ I1 L1) s.1 s.2) (cntB (isF T N) 256) (fun i => (nI (F i), nI i)) (if nI j = 0 then nI (pc B) else nI B, hk σ I1 L1) (fun i hi => ?_) ?_
  · rw [F0] at key; exact key
  · show mX11_elect_l19f 100 (nI j) (hk σ I1 L1) (nI (F i)) (nI i) = some (Sum.inl (nI (F (i + 1)), nI (i + 1)))
    obtain ⟨q1, q2, q3, q4⟩ := Fs i hi
    obtain ⟨p1, _⟩ := t1.row q2 q3 q4
    have hb := Fb i
    have hw := ws_lt (T := T) h18 (W i)
    have l1 := pc_le (F i)
    have l2 := pc_le (ws T N (W i))
    obtain ⟨d1, d2⟩ := pcd (pc (ws T N (W i))) (by omega) (pc (F i)) (by omega)
    unfold mX11_elect_l19f mX11_elect_b71 mX11_elect_b74
    rw [gTal, gI_o 5 (n := 6) rfl, obind, t1.1, c_lt hi (by omega), gTal, g6, RF_426_0, at_r (n := 256) rfl (by omega) (by omega), obind, p1, cbits_ok _ hw, obind, cbits_ok _ hb, obind, q1, nI_1, c_ltd (by omega) (by omega)]
    unfold stE
    by_cases h1 : pc (F i) < pc (ws T N (W i))
    · rw [if_pos (d1.mpr h1), if_pos h1]
    · rw [if_neg (fun z => h1 (d1.mp z)), if_neg h1]
      by_cases h2 : pc (ws T N (W i)) = pc (F i)
      · rw [if_pos (d2.mpr h2), if_pos h2]
        by_cases h3 : ws T N (W i) < F i
        · rw [if_pos h3, if_pos h3]
        · rw [if_neg h3, if_neg h3]
      · rw [if_neg (fun z => h2 (d2.mp z)), if_neg h2]
  · show mX11_elect_l19f 100 (nI j) (hk σ I1 L1) (nI (F (cntB (isF T N) 256))) (nI (cntB (isF T N) 256)) = _
    unfold mX11_elect_l19f
    rw [Fz, gTal, gI_o 5 (n := 6) rfl, obind, t1.1, c_nlt (Nat.le_refl _) (by omega), cbits_ok _ hB2, obind]
    rcases (show j = 0 ∨ j = 1 by omega) with rfl | rfl
    · rw [if_pos (show nI 0 = 0 from rfl), if_pos (show nI 0 = 0 from rfl), xts]
    · rw [if_neg (by decide), if_neg (by decide), xts]
end C2
