section Q9
variable {σ : Sg} {I I' I1 I2 : Nat → Nat → Int32} {L L' L1 L2 : Nat → Nat → Int64}
/-- outcome -/
theorem q_outcome {T N : Nat → Nat} (h : CR σ I L T N) (hm : MI I T N) (x y : Int32) :
    ∃ v I1 L1 I2, mX11_outcome 100 x y (hk σ I L) = some (v, hk σ I1 L1) ∧ mX12_outcome 433 x y (hk σ I1 L1) = some (v, hk σ I2 L1) ∧ FrC I L I1 L1 ∧ FrM I1 L1 I2 L1 := by
  have hW := h.2.1
  have hN := h.2.2.1
  have h18 := (h.2.2.1.bkH hW).1
  obtain ⟨I1, L1, e1, f1, _, t1⟩ := survey_ok h
  obtain ⟨I2, e2, f2, m, hji, hs⟩ := moutcomes_ok (σ := σ) (L := L1) (hm.frC f1)
  have lc := cntB_le (isF T N) 256
  unfold mX11_outcome mX12_outcome
  rw [if_pos s100, e1, obind]
  have no : (if x < 0 then some ((-1 : Int32), hk σ I1 L1) else if x < nI (cntB (isF T N) 256) then some ((-1 : Int32), hk σ I1 L1) else some ((-1 : Int32), hk σ I1 L1)) = some ((-1 : Int32), hk σ I1 L1) := by
    split
    · rfl
    · split <;> rfl
  rcases ixn y 3 (by omega) with ⟨j, hj, rfl, hdy⟩ | hdy
  · rcases ixn x (cntB (isF T N) 256) (by omega) with ⟨i, hi, rfl, hdx⟩ | hdx
    · obtain ⟨W, F, F0, Fs, _, _⟩ := fo_tr (fun (s : Nat) _ => s) (isF T N) 0 256
      have Wj : ∀ k, k < cntB (isF T N) 256 → W k < 256 ∧ isF T N (W k) = true ∧ cntB (isF T N) (W k) = k := fun k hk' => (Fs k hk').2
      obtain ⟨w1, w2, w3⟩ := Wj i hi
      obtain ⟨p1, p2, p3, _⟩ := t1.row w1 w2 w3
      have lk' := cntB_le (lk T N (W i)) 256
      refine ⟨if j = 0 then nI (ws T N (W i)) else if j = 1 then nI (cntB (lk T N (W i)) 256) else nI (W i), I1, L1, I2, ?_, ?_, f1, f2⟩
      · rw [if_neg (nI_pos (show i < 2 ^ 31 by omega)), gTal, gI_o 5 (n := 6) rfl, obind, t1.1, c_lt hi (by omega), tsw_n (by omega)]
        rcases (show j = 0 ∨ j = 1 ∨ j = 2 by omega) with rfl | rfl | rfl
        · rw [td0, gTal, g6, RF_426_0, at_r (n := 256) rfl (by omega) (by omega), obind, p1]; rfl
        · rw [td1, gTal, g6, RF_426_1, at_r (n := 256) rfl (by omega) (by omega), obind, p3]; rfl
        · rw [td2, gTal, g6, RF_426_2, at_r (n := 256) rfl (by omega) (by omega), obind, p2]; rfl
      · rw [if_pos s433, in_2, hdy, obind, bI_if0, if_neg nTF, e2, b2s, in_any _ (by omega), hdx, obind, bI_if0, if_neg nTF]
        -- where the search for the k-th begins
        let np : Nat → Nat := fun k => match k with | 0 => 0 | k + 1 => W k + 1
        have np_c : ∀ k, k ≤ i → cntB (isF T N) (np k) = k ∧ np k ≤ W k := by
          intro k hk'
          match k with
          | 0 => exact ⟨rfl, Nat.zero_le _⟩
          | k + 1 =>
            obtain ⟨a1, a2, a3⟩ := Wj k (by omega)
            obtain ⟨b1, b2, b3⟩ := Wj (k + 1) (by omega)
            refine ⟨by show cntB (isF T N) (W k + 1) = _; rw [cntS, if_pos a2, a3], ?_⟩
            show W k + 1 ≤ W (k + 1)
            rcases Nat.lt_or_ge (W k) (W (k + 1)) with q | q
            · exact q
            · have := cntB_mono (isF T N) q; omega
        have find : ∀ k, k ≤ i → mX12_outcome_l39 433 (nI i) (nI j) (nI (np k)) (nI k) (hk σ I2 L1) = some (.inl (nI (W k), nI (k + 1))) := by
          intro k hk'
          obtain ⟨c1, c2⟩ := np_c k hk'
          obtain ⟨b1, b2, b3⟩ := Wj k (by omega)
          unfold mX12_outcome_l39
          refine lp_trajF (f := fun s : Int32 => mX12_outcome_l39f 433 (nI i) (nI j) (nI k) (hk σ I2 L1) s) (np k) (W k) (fun u => nI u) _ c2 (fun u hu1 hu2 => ?_) ?_
          · show mX12_outcome_l39f 433 (nI i) (nI j) (nI k) (hk σ I2 L1) (nI u) = _
            have hF : isF T N u = false := by
              cases e : isF T N u
              · rfl
              · have g1 := cntB_mono (isF T N) hu1
                have g2 := cnt_lt e hu2
                omega
            unfold mX12_outcome_l39f mX12_outcome_b56
            rw [m.left (show u < 256 by omega), obind, bI_if0]
            rcases Bool.eq_false_or_eq_true (lft T N u) with q | q
            · obtain ⟨v, v1, v2, v3, ev⟩ := firstLike_ok (σ := σ) (L := L1) m hs (show u < 256 by omega) q
              rw [q, if_neg nTF, ev, obind, c_eqd (by omega) (by omega), if_neg (show ¬ v = u by rw [fst_is v1 v2 v3, hF]; decide), nI_1]
            · rw [q, if_pos rfl, nI_1]
          · show mX12_outcome_l39f 433 (nI i) (nI j) (nI k) (hk σ I2 L1) (nI (W k)) = _
            obtain ⟨v, v1, v2, v3, ev⟩ := firstLike_ok (σ := σ) (L := L1) m hs b1 (isF_l b2)
            unfold mX12_outcome_l39f
            rw [m.left b1, isF_l b2, obind, bI_if0, if_neg nTF, ev, obind, c_eqd (by omega) (by omega), if_pos (show v = W k by rw [fst_is v1 v2 v3]; exact b2), xts, nI_1]
        have last : mX12_outcome_l74 433 (nI j) (nI (W i)) 0 0 (hk σ I2 L1) = some (if j = 0 then nI (ws T N (W i)) else if j = 1 then nI (cntB (lk T N (W i)) 256) else nI (W i), hk σ I2 L1) := by
          have bw := ws_lt (T := T) h18 (W i)
          unfold mX12_outcome_l74
          refine lp_traj (f := fun s : Int32 × Int32 => mX12_outcome_l74f 433 (nI j) (nI (W i)) (hk σ I2 L1) s.1 s.2) 256 (fun u => (nI (cntB (lk T N (W i)) u), nI u)) _ (fun u hu => ?_) ?_
          · show mX12_outcome_l74f 433 (nI j) (nI (W i)) (hk σ I2 L1) (nI (cntB (lk T N (W i)) u)) (nI u) = some (Sum.inl (nI (cntB (lk T N (W i)) u + (if lk T N (W i) u = true then 1 else 0)), nI (u + 1)))
            unfold mX12_outcome_l74f mX12_outcome_b113 mX12_outcome_b114
            rw [show (256 : Int32) = nI 256 from rfl, c_lt hu (by omega), m.left hu, obind, bI_if0]
            have bu := ws_lt (T := T) h18 u
            unfold lk
            rcases Bool.eq_false_or_eq_true (lft T N u) with q | q
            · rw [q, if_neg nTF, g454, obind, hs.ld hu q, obind, obind, hs.ld w1 (isF_l w2), obind, c_eqd (by omega) (by omega), Bool.true_and]
              by_cases q2 : ws T N u = ws T N (W i)
              · rw [if_pos q2, decide_eq_true q2, if_pos rfl, nI_1, nI_1]
              · rw [if_neg q2, decide_eq_false q2, if_neg (by decide), nI_1, show (0 : Int32) = nI 0 from rfl, nI_add]
            · rw [q, if_pos rfl, Bool.false_and, if_neg (by decide), nI_1, show (0 : Int32) = nI 0 from rfl, nI_add]
          · show mX12_outcome_l74f 433 (nI j) (nI (W i)) (hk σ I2 L1) (nI (cntB (lk T N (W i)) 256)) (nI 256) = _
            unfold mX12_outcome_l74f
            rw [if_neg (by decide), g454, obind, hs.ld w1 (isF_l w2), obind]
            rcases (show j = 0 ∨ j = 1 ∨ j = 2 by omega) with rfl | rfl | rfl <;> rfl
        unfold mX12_outcome_l30
        have key := lp_traj (f := fun s : Int32 × Int32 => mX12_outcome_l30f 433 (nI i) (nI j) (hk σ I2 L1) s.1 s.2) (i + 1) (fun k => (nI (np k) - 1, nI k)) (if j = 0 then nI (ws T N (W i)) else if j = 1 then nI (cntB (lk T N (W i)) 256) else nI (W i), hk σ I2 L1) (fun k hk' => ?_) ?_
        · exact key
        · show mX12_outcome_l30f 433 (nI i) (nI j) (hk σ I2 L1) (nI (np k) - 1) (nI k) = some (Sum.inl (nI (W k + 1) - 1, nI (k + 1)))
          unfold mX12_outcome_l30f
          rw [c_nlt (show k ≤ i by omega) (by omega), Int32.sub_add_cancel, find k (by omega), nI_pred]
        · show mX12_outcome_l30f 433 (nI i) (nI j) (hk σ I2 L1) (nI (W i + 1) - 1) (nI (i + 1)) = _
          unfold mX12_outcome_l30f
          rw [c_lt (show i < i + 1 by omega) (by omega), nI_pred, last, xts]
    · refine ⟨-1, I1, L1, I2, ?_, ?_, f1, f2⟩
      · rw [gTal, gI_o 5 (n := 6) rfl, obind, t1.1]
        rcases ix_cases x with hx | ⟨i, hi, rfl⟩
        · rw [if_pos hx]
        · rw [nI_toInt hi] at hdx
          have := of_decide_eq_false hdx
          rw [if_neg (nI_pos hi), c_nlt (show cntB (isF T N) 256 ≤ i by omega) hi]
      · rw [if_pos s433, in_2, hdy, obind, bI_if0, if_neg nTF, e2, b2s, in_any _ (by omega), hdx, obind, bI_if0, if_pos rfl]
  · refine ⟨-1, I1, L1, I1, ?_, ?_, f1, FrM.rf⟩
    · rw [gTal, gI_o 5 (n := 6) rfl, obind, t1.1]
      have dflt : ∀ (l : List (Option (Int32 × Hp))), l.length = 3 → tsw y 0 l (some ((-1 : Int32), hk σ I1 L1)) = some ((-1 : Int32), hk σ I1 L1) := by
        intro l hl
        rcases ix_cases y with hy | ⟨j, hj, rfl⟩
        · exact tsw_neg hy _ _
        · rw [nI_toInt hj] at hdy
          have := of_decide_eq_false hdy
          rw [tsw_n hj, tdN (by omega)]
      rw [dflt _ rfl]; exact no
    · rw [if_pos s433, in_2, hdy, obind, bI_if0, if_pos rfl]
/-- sums, sorted by the first of a kind -/
theorem fo_sm (g : Nat → Nat) (p : Nat → Bool) : ∀ n, fo (fun s w => s + g w) p 0 n = sm g p n
  | 0 => rfl
  | n + 1 => by
    rw [foS, smS, fo_sm g p n]
    split <;> rfl
theorem sm_add {g g' : Nat → Nat} {p : Nat → Bool} : ∀ n, sm (fun w => g w + g' w) p n = sm g p n + sm g' p n
  | 0 => rfl
  | n + 1 => by
    rw [smS, smS, smS, sm_add n]
    split <;> omega
theorem sm_0 {g : Nat → Nat} {p : Nat → Bool} : ∀ {n}, (∀ w, w < n → p w = true → g w = 0) → sm g p n = 0
  | 0, _ => rfl
  | n + 1, h => by
    rw [smS, sm_0 (n := n) fun w hw => h w (by omega)]
    split
    · rename_i hp; rw [h n (by omega) hp]
    · rfl
theorem sm_one {g : Nat → Nat} {p : Nat → Bool} {v : Nat} (hv : p v = true) : ∀ {n}, v < n → (∀ w, w < n → p w = true → w ≠ v → g w = 0) → sm g p n = g v
  | 0, h, _ => absurd h (Nat.not_lt_zero _)
  | n + 1, h, hz => by
    rw [smS]
    by_cases e : v = n
    · subst e
      rw [if_pos hv, sm_0 fun w hw hp => hz w (by omega) hp (by omega), Nat.zero_add]
    · rw [sm_one hv (n := n) (by omega) fun w hw => hz w (by omega)]
      split
      · rename_i hp; rw [hz n (by omega) hp (Ne.symm e)]; rfl
      · rfl
theorem sm_congr {g g' : Nat → Nat} {p : Nat → Bool} : ∀ {n}, (∀ w, w < n → p w = true → g w = g' w) → sm g p n = sm g' p n
  | 0, _ => rfl
  | n + 1, h => by
    rw [smS, smS, sm_congr (n := n) fun w hw => h w (by omega)]
    split
    · rename_i hp; rw [h n (by omega) hp]
    · rfl
theorem sm_sort {T N : Nat → Nat} (a : Nat → Nat) : ∀ n, n ≤ 256 → sm (fun w => a (ws T N w) * sm (wg T) (lk T N w) n) (isF T N) 256 = sm (fun w => a (ws T N w) * wg T w) (lft T N) n
  | 0, _ => sm_0 fun w _ _ => Nat.mul_zero _
  | n + 1, hn => by
    have ih := sm_sort (T := T) (N := N) a n (by omega)
    have e : sm (fun w => a (ws T N w) * sm (wg T) (lk T N w) (n + 1)) (isF T N) 256 = sm (fun w => a (ws T N w) * sm (wg T) (lk T N w) n + a (ws T N w) * (if lk T N w n = true then wg T n else 0)) (isF T N) 256 :=
      sm_congr fun w _ _ => by rw [smS, Nat.mul_add]
    rw [e, sm_add (g := fun w => a (ws T N w) * sm (wg T) (lk T N w) n) (g' := fun w => a (ws T N w) * (if lk T N w n = true then wg T n else 0)), ih, smS (fun w => a (ws T N w) * wg T w) (lft T N) n]
    suffices key : sm (fun w => a (ws T N w) * (if lk T N w n = true then wg T n else 0)) (isF T N) 256 = (if lft T N n = true then a (ws T N n) * wg T n else 0) by rw [key]
    cases hl : lft T N n
    · rw [if_neg (by decide)]
      refine sm_0 fun w _ _ => ?_
      have : lk T N w n = false := by unfold lk; rw [hl]; rfl
      rw [this, if_neg (by decide), Nat.mul_zero]
    · rw [if_pos rfl]
      obtain ⟨v, v1, v2, v3⟩ := isF_ex (T := T) (N := N) (n := n) (w := n) (Nat.le_refl _) hl
      rw [sm_one (g := fun w => a (ws T N w) * (if lk T N w n = true then wg T n else 0)) v2 (show v < 256 by omega) fun w hw hp hne => ?_]
      · show a (ws T N v) * (if lk T N v n = true then wg T n else 0) = _
        have : lk T N v n = true := by unfold lk; rw [hl, decide_eq_true v3.symm]; rfl
        rw [this, if_pos rfl, v3]
      · show a (ws T N w) * (if lk T N w n = true then wg T n else 0) = 0
        have : lk T N w n = false := by
          unfold lk
          rw [decide_eq_false (fun z => hne (isF_inj hp v2 (by rw [v3, z]))), Bool.and_false]
        rw [this, if_neg (by decide), Nat.mul_zero]
theorem q_meant {T N : Nat → Nat} (h : CR σ I L T N) (hm : MI I T N) (y : Int32) :
    ∃ v I1 L1 I2 L2, mX11_meant 100 y (hk σ I L) = some (v, hk σ I1 L1) ∧ mX12_meant 433 y (hk σ I1 L1) = some (v, hk σ I2 L2) ∧ FrC I L I1 L1 ∧ FrM I1 L1 I2 L2 := by
  have hW := h.2.1
  have hN := h.2.2.1
  have h18 := (h.2.2.1.bkH hW).1
  unfold mX11_meant mX12_meant
  rw [if_pos s100]
  rcases ixn y 2 (by omega) with ⟨j, hj, rfl, hdy⟩ | hdy
  · obtain ⟨I1, L1, e1, f1, hl1, t1⟩ := survey_ok h
    have hx : CR σ I1 L1 T N := h.fr f1
    obtain ⟨I2, e2, f2, m, hji, hs⟩ := laysWins_ok (σ := σ) (L := L1) (hm.frC f1)
    have lc := cntB_le (isF T N) 256
    have sort := sm_sort (T := T) (N := N) (aw T N) 256 (Nat.le_refl _)
    have b0 := sm_b hW (lft T N) (n := 256) (Nat.le_refl _)
    have bS : sm (fun w => aw T N (ws T N w) * wg T w) (lft T N) 256 ≤ 256 * (4995 * 43046721) := sm_le fun w _ => Nat.mul_le_mul (aw_le hW hN _) (wg_b hW w).2
    obtain ⟨P, hP⟩ : ∃ P, P = sm (fun w => aw T N (ws T N w) * wg T w) (lft T N) 256 := ⟨_, rfl⟩
    obtain ⟨A, hA⟩ : ∃ A, A = sm (wg T) (lft T N) 256 := ⟨_, rfl⟩
    have hA0 : 0 < A := by rw [hA]; exact all_pos hW hN
    rw [← hP] at bS sort
    rw [← hA] at b0
    obtain ⟨g, hg, g1, g2⟩ := low_ok (σ := σ) (p := P) (w := A) (by omega) hA0 (by omega)
    refine ⟨if nI j = 0 then lN (P / g) else lN (A / g), I1, L1, I2, rowUp L1 433 (updA (updA (L1 433) 36 (lN (P / g))) 37 (lN (A / g))), ?_, ?_, f1, ⟨fun a h1 h2 => ⟨(f2.1 a h1 h2).1, ?_⟩, f2.2.1, fun a h1 h2 => ?_⟩⟩
    · rw [if_neg (nI_pos (show j < 2 ^ 31 by omega)), if_neg (show ¬ (1 : Int32) < nI j from nI_nlt (a := 1) (b := j) (by omega) (by decide)), e1, obind]
      unfold mX11_meant_l22
      obtain ⟨W, F, F0, Fs, Fz, _⟩ := fo_tr (fun s w => s + aw T N (ws T N w) * sm (wg T) (lk T N w) 256) (isF T N) 0 256
      rw [fo_sm (fun w => aw T N (ws T N w) * sm (wg T) (lk T N w) 256), sort] at Fz
      have key := lp_traj (f := fun s : Int64 × Int32 => mX11_meant_l22f 100 (nI j) (hk σ I1 L1) s.1 s.2) (cntB (isF T N) 256) (fun i => (lN (F i), nI i)) (if nI j = 0 then lN (P / g) else lN (A / g), hk σ I1 L1) (fun i hi => ?_) ?_
      · rw [F0] at key; exact key
      · show mX11_meant_l22f 100 (nI j) (hk σ I1 L1) (lN (F i)) (nI i) = some (Sum.inl (lN (F (i + 1)), nI (i + 1)))
        obtain ⟨q1, q2, q3, q4⟩ := Fs i hi
        obtain ⟨p1, _, _, p4⟩ := t1.row q2 q3 q4
        have ha := aw_le hW hN (ws T N (W i))
        unfold mX11_meant_l22f
        rw [gTal, gI_o 5 (n := 6) rfl, obind, t1.1, c_lt hi (by omega), gTal, g6, RF_426_0, at_r (n := 256) rfl (by omega) (by omega), obind, p1, cawardOf_ok hx (ws_lt h18 _), obind, gTal, g6, RF_426_3, longAt_nI (n := 256) rfl (by omega) (by omega), obind, if_pos (show i < 256 by omega), hpL_hk'', p4, nI_l (by omega), lN_mul, lN_add, nI_1, q1]
      · show mX11_meant_l22f 100 (nI j) (hk σ I1 L1) (lN (F (cntB (isF T N) 256))) (nI (cntB (isF T N) 256)) = _
        unfold mX11_meant_l22f
        rw [Fz, gTal, gI_o 5 (n := 6) rfl, obind, t1.1, c_nlt (Nat.le_refl _) (by omega), gLa, gLeft, weigh_ok hx wLeft hl1, obind, ← hA, g1, obind, xts]
    · rw [if_pos s433, in_1, hdy, obind, bI_if0, if_neg nTF, e2, obind]
      unfold mX12_meant_l25
      have key := lp_traj (f := fun s : Int64 × Int64 × Int32 => mX12_meant_l25f 433 (nI j) (hk σ I2 L1) s.1 s.2.1 s.2.2) 256 (fun i => (lN (sm (fun w => aw T N (ws T N w) * wg T w) (lft T N) i), lN (sm (wg T) (lft T N) i), nI i)) (if nI j = 0 then lN (P / g) else lN (A / g), hk σ I2 (rowUp L1 433 (updA (updA (L1 433) 36 (lN (P / g))) 37 (lN (A / g))))) (fun i hi => ?_) ?_
      · exact key
      · show mX12_meant_l25f 433 (nI j) (hk σ I2 L1) (lN (sm (fun w => aw T N (ws T N w) * wg T w) (lft T N) i)) (lN (sm (wg T) (lft T N) i)) (nI i) = some (Sum.inl (lN (sm (fun w => aw T N (ws T N w) * wg T w) (lft T N) i + (if lft T N i = true then aw T N (ws T N i) * wg T i else 0)), lN (sm (wg T) (lft T N) i + (if lft T N i = true then wg T i else 0)), nI (i + 1)))
        have ha := aw_le hW hN (ws T N i)
        obtain ⟨s, s1, s2, s3⟩ := hs i hi
        unfold mX12_meant_l25f mX12_meant_b61 mX12_meant_b84
        rw [show (256 : Int32) = nI 256 from rfl, c_lt hi (by omega), m.left hi, obind, bI_if0]
        rcases Bool.eq_false_or_eq_true (lft T N i) with q | q
        · rw [q, if_neg nTF, mawardOf_ok m hji hi s2 s1, obind, s3 q, mweight_ok m hi, obind, obind, bI_if0, if_neg nTF, obind, nI_l (by omega), lN_mul, lN_add, lN_add, nI_1, if_pos rfl, if_pos rfl]
        · rw [q, if_pos rfl, obind, bI_if0, if_pos rfl, show (0 : Int64) = lN 0 from rfl, lN_add, lN_add, nI_1, if_neg (by decide), if_neg (by decide)]
      · show mX12_meant_l25f 433 (nI j) (hk σ I2 L1) (lN (sm (fun w => aw T N (ws T N w) * wg T w) (lft T N) 256)) (lN (sm (wg T) (lft T N) 256)) (nI 256) = _
        unfold mX12_meant_l25f
        rw [if_neg (by decide), ← hP, ← hA, g2, obind]
        rcases (show j = 0 ∨ j = 1 by omega) with rfl | rfl
        · rw [if_pos (show nI 0 = 0 from rfl), gL_ok (by rfl), obind, hpL_hk'', rowUp_same, updA_ne _ _ (by decide), updA_same, if_pos (show nI 0 = 0 from rfl), xts]
        · rw [if_neg (by decide), gL_ok (by rfl), obind, hpL_hk'', rowUp_same, updA_same, if_neg (by decide), xts]
    · rw [rowUp_at, if_neg h2]
    · rw [rowUp_same, updA_ne _ _ h2, updA_ne _ _ h1]
  · refine ⟨-1, I, L, I, L, ?_, ?_, FrC.rf, FrM.rf⟩
    · unfold mX11_meant_b9
      rcases ix_cases y with hy | ⟨j, hj, rfl⟩
      · rw [if_pos hy]
      · rw [nI_toInt hj] at hdy
        have := of_decide_eq_false hdy
        rw [if_neg (nI_pos hj), if_pos (show (1 : Int32) < nI j from nI_lt (show 1 < j by omega) hj)]
    · rw [if_pos s433, in_1, obind, bI_if0, hdy, if_pos rfl]
end Q9
