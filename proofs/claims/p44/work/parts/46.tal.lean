section Tal
variable {σ : Sg} {I I' I1 I2 : Nat → Nat → Int32} {L L' L1 L2 : Nat → Nat → Int64}
/-- the standing COUNTS that are won in a world -/
def ws (T N : Nat → Nat) (w : Nat) : Nat := bs (fun k => (stnd T N).testBit k && won T (it N k 0) w) (N 18)
def lk (T N : Nat → Nat) (w v : Nat) : Bool := lft T N v && decide (ws T N v = ws T N w)
def isF (T N : Nat → Nat) (w : Nat) : Bool := lft T N w && !anyB (lk T N w) w
theorem cntS (p : Nat → Bool) (n : Nat) : cntB p (n + 1) = cntB p n + (if p n = true then 1 else 0) := rfl
theorem smS (g : Nat → Nat) (p : Nat → Bool) (n : Nat) : sm g p (n + 1) = sm g p n + (if p n = true then g n else 0) := rfl
theorem cnt_lt {p : Nat → Bool} {w n : Nat} (hp : p w = true) (h : w < n) : cntB p w < cntB p n := by
  have h1 : cntB p (w + 1) ≤ cntB p n := cntB_mono p h
  rw [cntS, if_pos hp] at h1; omega
theorem cnt_inj {p : Nat → Bool} {w v : Nat} (hw : p w = true) (hv : p v = true) (h : cntB p w = cntB p v) : w = v := by
  rcases Nat.lt_trichotomy w v with q | q | q
  · have := cnt_lt hw q; omega
  · exact q
  · have := cnt_lt hv q; omega
theorem isF_l {T N : Nat → Nat} {w : Nat} (h : isF T N w = true) : lft T N w = true := by unfold isF at h; rw [Bool.and_eq_true] at h; exact h.1
theorem isF_no {T N : Nat → Nat} {w v : Nat} (h : isF T N w = true) (hv : v < w) (hl : lft T N v = true) : ws T N v ≠ ws T N w := by
  intro e
  unfold isF at h
  rw [Bool.and_eq_true] at h
  have : anyB (lk T N w) w = true := anyB_iff.mpr ⟨v, hv, by unfold lk; rw [hl, decide_eq_true e]; rfl⟩
  rw [this] at h
  exact absurd h.2 (by decide)
theorem isF_inj {T N : Nat → Nat} {w v : Nat} (hw : isF T N w = true) (hv : isF T N v = true) (h : ws T N w = ws T N v) : w = v := by
  rcases Nat.lt_trichotomy w v with q | q | q
  · exact absurd h (isF_no hv q (isF_l hw))
  · exact q
  · exact absurd h.symm (isF_no hw q (isF_l hv))
/-- a world that is left has a first one like it -/
theorem isF_ex {T N : Nat → Nat} : ∀ {n w : Nat}, w ≤ n → lft T N w = true → ∃ v, v ≤ w ∧ isF T N v = true ∧ ws T N v = ws T N w
  | 0, w, hw, hl => ⟨w, Nat.le_refl _, by
      have : w = 0 := by omega
      subst this
      unfold isF; rw [hl]; rfl, rfl⟩
  | n + 1, w, hw, hl => by
    cases h : anyB (lk T N w) w with
    | false => exact ⟨w, Nat.le_refl _, by unfold isF; rw [hl, h]; rfl, rfl⟩
    | true =>
      obtain ⟨v, hv, h1⟩ := anyB_iff.mp h
      unfold lk at h1
      rw [Bool.and_eq_true] at h1
      obtain ⟨u, hu, h2, h3⟩ := isF_ex (n := n) (w := v) (by omega) h1.1
      exact ⟨u, by omega, h2, by rw [h3, of_decide_eq_true h1.2]⟩
theorem ws_lt {T N : Nat → Nat} (h18 : N 18 ≤ 8) (w : Nat) : ws T N w < 256 := Nat.lt_of_lt_of_le (bs_lt _ _) (ev_lt h18)
def TaL (T N : Nat → Nat) (I : Nat → Nat → Int32) (L : Nat → Nat → Int64) (n : Nat) : Prop :=
  I 426 5 = nI (cntB (isF T N) n) ∧
  (∀ w, w < n → isF T N w = true → I 427 (cntB (isF T N) w) = nI (ws T N w) ∧ I 429 (cntB (isF T N) w) = nI w ∧ I 428 (cntB (isF T N) w) = nI (cntB (lk T N w) n) ∧ L 430 (cntB (isF T N) w) = lN (sm (wg T) (lk T N w) n)) ∧
  ∀ s, s < 256 → (I 431 s = 0 ∧ ∀ w, w < n → lft T N w = true → ws T N w ≠ s) ∨ ∃ w, w < n ∧ isF T N w = true ∧ ws T N w = s ∧ I 431 s = nI (cntB (isF T N) w + 1)
theorem FrC.tr (h : FrC I L I1 L1) (g : FrC I1 L1 I2 L2) : FrC I L I2 L2 := fun a ha => ⟨(g a ha).1.trans (h a ha).1, (g a ha).2.trans (h a ha).2⟩
theorem g6 (k : Nat) {ρ : Type} (f : Nat → Option ρ) : (gR 6 k 426 (hk σ I L)).bind f = f (RF σ 426 k) := rfl
theorem enterT_ok (i g : Nat) (hi : i < 256) : mX6_enter_b85 426 (nI g) (nI i) (hk σ I L) = some (hk σ (rowUp I 428 (updA (I 428) i (I 428 i + 1))) (rowUp L 430 (updA (L 430) i (L 430 i + (nI g).toInt64)))) := by
  unfold mX6_enter_b85
  rw [g6, g6, RF_426_1, at_r (n := 256) rfl hi (by omega), obind, put_nI (n := 256) rfl (by omega) hi, obind, setI_hk, hpI_hk', g6, g6, RF_426_3, longAt_nI (n := 256) rfl (by omega) (by omega), obind, if_pos hi, putLong_nI (n := 256) rfl (by omega) hi, obind, setL_hk, hpL_hk'']
theorem TaL_skip {T N : Nat → Nat} {n : Nat} (hl : lft T N n = false) (h : TaL T N I L n) : TaL T N I L (n + 1) := by
  obtain ⟨h1, h2, h3⟩ := h
  have hF : isF T N n = false := by unfold isF; rw [hl]; rfl
  have hk : ∀ w, lk T N w n = false := fun w => by unfold lk; rw [hl]; rfl
  refine ⟨by rw [cntS, hF, if_neg (by decide), Nat.add_zero]; exact h1, fun w hw hw2 => ?_, fun s hs => ?_⟩
  · have hwn : w < n := by
      rcases Nat.lt_or_ge w n with q | q
      · exact q
      · have : w = n := by omega
        subst this; rw [hF] at hw2; cases hw2
    rw [cntS, smS, hk w, if_neg (by decide), Nat.add_zero, if_neg (by decide), Nat.add_zero]
    exact h2 w hwn hw2
  · rcases h3 s hs with ⟨q1, q2⟩ | ⟨w, q1, q2⟩
    · refine Or.inl ⟨q1, fun w hw hlw => ?_⟩
      rcases Nat.lt_or_ge w n with q | q
      · exact q2 w q hlw
      · have : w = n := by omega
        subst this; rw [hl] at hlw; cases hlw
    · exact Or.inr ⟨w, by omega, q2⟩
theorem enter_ok {T N : Nat → Nat} {n : Nat} (hW : WT T) (h18 : N 18 ≤ 8) (hn : n < 256) (hl : lft T N n = true) (h : TaL T N I L n) :
    ∃ I2 L2, mX6_enter 426 (nI (ws T N n)) (nI n) (nI (wg T n)) (hk σ I L) = some (hk σ I2 L2) ∧ FrC I L I2 L2 ∧ L2 415 = L 415 ∧ TaL T N I2 L2 (n + 1) := by
  obtain ⟨h1, h2, h3⟩ := h
  have hs := ws_lt (T := T) h18 n
  have hg := wg_b hW n
  have hcn := cntB_le (isF T N) n
  unfold mX6_enter
  rw [if_pos (show (hpS (hk σ I L) 426).1 = 7 from rfl), g6, RF_426_4, at_r (n := 256) rfl hs (by omega), obind]
  rcases h3 _ hs with ⟨q1, q2⟩ | ⟨v, q1, q2, q3, q4⟩
  · -- a new one
    have hF : isF T N n = true := by
      unfold isF
      rw [hl]
      cases e : anyB (lk T N n) n
      · rfl
      · obtain ⟨u, hu, h5⟩ := anyB_iff.mp e
        unfold lk at h5
        rw [Bool.and_eq_true] at h5
        exact absurd (of_decide_eq_true h5.2) (q2 u hu h5.1)
    rw [q1, if_pos (by decide), gI_o 5 (n := 6) rfl, obind, obind, sI_ok (by rfl), obind, setI_hk, hpI_hk', h1, g6, RF_426_4, gI_o 5 (n := 6) rfl, obind, rowUp_same, updA_same, nI_1, put_nI (n := 256) rfl (by omega) hs, obind, setI_hk, hpI_hk', g6, RF_426_0, put_nI (n := 256) rfl (by omega) (show cntB (isF T N) n < 256 by omega), obind, setI_hk, hpI_hk', g6, RF_426_2, put_nI (n := 256) rfl (by omega) (show cntB (isF T N) n < 256 by omega), obind, setI_hk, hpI_hk', g6, RF_426_1, put_nI (n := 256) rfl (by omega) (show cntB (isF T N) n < 256 by omega), obind, setI_hk, hpI_hk', g6, RF_426_3, putLong_nI (n := 256) rfl (by omega) (show cntB (isF T N) n < 256 by omega), obind, setL_hk, hpL_hk'', enterT_ok _ _ (show cntB (isF T N) n < 256 by omega)]
    refine ⟨_, _, rfl, fun a ha => ?_, ?_, ?_⟩
    · unfold scC at ha
      refine ⟨?_, ?_⟩
      · rw [rowUp_at, if_neg (by omega), rowUp_at, if_neg (by omega), rowUp_at, if_neg (by omega), rowUp_at, if_neg (by omega), rowUp_at, if_neg (by omega), rowUp_at, if_neg (by omega)]
      · rw [rowUp_at, if_neg (by omega), rowUp_at, if_neg (by omega)]
    · rw [rowUp_at, if_neg (by omega), rowUp_at, if_neg (by omega)]
    · have d : ∀ (a b : Nat), a ≠ b → ∀ {α : Type} (f : Nat → Nat → α) (r : Nat → α), rowUp f a r b = f b := fun a b hab α f r => by rw [rowUp_at, if_neg (Ne.symm hab)]
      have lkn : ∀ w, w < n → isF T N w = true → lk T N w n = false := fun w hw hwF => by
        unfold lk; rw [decide_eq_false (fun e => q2 w hw (isF_l hwF) e.symm), Bool.and_false]
      have z1 : cntB (lk T N n) n = 0 := cntB_0.mpr (by
        cases e : anyB (lk T N n) n
        · rfl
        · obtain ⟨u, hu, h5⟩ := anyB_iff.mp e
          unfold lk at h5
          rw [Bool.and_eq_true] at h5
          exact absurd (of_decide_eq_true h5.2) (q2 u hu h5.1))
      have z2 : sm (wg T) (lk T N n) n = 0 := by
        have : ∀ m, m ≤ n → sm (wg T) (lk T N n) m = 0 := by
          intro m
          induction m with
          | zero => intro _; rfl
          | succ m ih =>
            intro hm
            rw [smS, ih (by omega)]
            have : lk T N n m = false := by
              cases e : lk T N n m
              · rfl
              · unfold lk at e
                rw [Bool.and_eq_true] at e
                exact absurd (of_decide_eq_true e.2) (q2 m (by omega) e.1)
            rw [this, if_neg (by decide)]
        exact this n (Nat.le_refl _)
      have lkk : lk T N n n = true := by unfold lk; rw [hl, decide_eq_true rfl]; rfl
      refine ⟨?_, fun w hw hwF => ?_, fun s hs' => ?_⟩
      · rw [cntS, hF, if_pos rfl]
        simp only [rowUp_at, updA_at, Nat.reduceEqDiff, reduceIte]
      · by_cases e : w = n
        · subst e
          rw [cntS, lkk, if_pos rfl, z1, smS, lkk, if_pos rfl, z2]
          simp only [rowUp_at, updA_at, Nat.reduceEqDiff, reduceIte]
          refine ⟨trivial, trivial, ?_, ?_⟩
          · rfl
          · rw [nI_l (by omega)]; show lN 0 + _ = _; rw [lN_add]
        · have hwn : w < n := by omega
          have hlt := cnt_lt hwF hwn
          obtain ⟨p1, p2, p3, p4⟩ := h2 w hwn hwF
          rw [cntS, lkn w hwn hwF, if_neg (by decide), Nat.add_zero, smS, lkn w hwn hwF, if_neg (by decide), Nat.add_zero]
          simp only [rowUp_at, updA_at, Nat.reduceEqDiff, reduceIte, if_neg (show ¬ cntB (isF T N) w = cntB (isF T N) n by omega)]
          exact ⟨p1, p2, p3, p4⟩
      · have r431 : ∀ (X : Nat → Nat → Int32), X 431 s = X 431 s := fun _ => rfl
        by_cases e : s = ws T N n
        · subst e
          refine Or.inr ⟨n, by omega, hF, rfl, ?_⟩
          simp only [rowUp_at, updA_at, Nat.reduceEqDiff, reduceIte]
        · have g : ∀ v : Int32, I 431 s = v → (rowUp (rowUp (rowUp (rowUp (rowUp (rowUp I 426 (updA (I 426) 5 (nI (cntB (isF T N) n + 1)))) 431 (updA (rowUp I 426 (updA (I 426) 5 (nI (cntB (isF T N) n + 1))) 431) (ws T N n) (nI (cntB (isF T N) n + 1)))) 427 (fun _ => 0)) 429 (fun _ => 0)) 428 (fun _ => 0)) 428 (fun _ => 0)) 431 s = v := fun v hv => by
            simp only [rowUp_at, updA_at, Nat.reduceEqDiff, reduceIte, if_neg e]
            exact hv
          rcases h3 s hs' with ⟨k1, k2⟩ | ⟨w, k1, k2, k3, k4⟩
          · refine Or.inl ⟨?_, fun w hw hlw => ?_⟩
            · simp only [rowUp_at, updA_at, Nat.reduceEqDiff, reduceIte, if_neg e]
              exact k1
            · by_cases e2 : w = n
              · subst e2; exact fun z => e z.symm
              · exact k2 w (by omega) hlw
          · refine Or.inr ⟨w, by omega, k2, k3, ?_⟩
            simp only [rowUp_at, updA_at, Nat.reduceEqDiff, reduceIte, if_neg e]
            exact k4
  · -- one more of its kind
    have hF : isF T N n = false := by
      cases e : isF T N n
      · rfl
      · exact absurd q3 (isF_no e q1 (isF_l q2))
    have hv := cntB_le (isF T N) v
    rw [q4, show nI (cntB (isF T N) v + 1) - 1 = nI (cntB (isF T N) v) from nI_pred _, if_neg (nI_pos (show cntB (isF T N) v < 2 ^ 31 by omega)), enterT_ok _ _ (show cntB (isF T N) v < 256 by omega)]
    refine ⟨_, _, rfl, fun a ha => ?_, ?_, ?_⟩
    · unfold scC at ha
      exact ⟨by rw [rowUp_at, if_neg (by omega)], by rw [rowUp_at, if_neg (by omega)]⟩
    · rw [rowUp_at, if_neg (by omega)]
    · refine ⟨?_, fun w hw hwF => ?_, fun s hs' => ?_⟩
      · rw [cntS, hF, if_neg (by decide), Nat.add_zero, rowUp_at, if_neg (by decide)]; exact h1
      · have hwn : w < n := by
          rcases Nat.lt_or_ge w n with q | q
          · exact q
          · have : w = n := by omega
            subst this; rw [hF] at hwF; cases hwF
        obtain ⟨p1, p2, p3, p4⟩ := h2 w hwn hwF
        have hx : sm (wg T) (lk T N w) n ≤ 11019960576 := sm_b hW _ (by omega)
        by_cases e : w = v
        · subst e
          have lkk : lk T N w n = true := by unfold lk; rw [hl, decide_eq_true q3.symm]; rfl
          rw [cntS, lkk, if_pos rfl, smS, lkk, if_pos rfl]
          simp only [rowUp_at, updA_at, Nat.reduceEqDiff, reduceIte]
          exact ⟨p1, p2, by rw [p3, nI_1], by rw [p4, nI_l (by omega), lN_add]⟩
        · have lkk : lk T N w n = false := by
            unfold lk
            rw [decide_eq_false (fun z => e (isF_inj hwF q2 (by rw [q3, z]))), Bool.and_false]
          have ne : ¬ cntB (isF T N) w = cntB (isF T N) v := fun z => e (cnt_inj hwF q2 z)
          rw [cntS, lkk, if_neg (by decide), Nat.add_zero, smS, lkk, if_neg (by decide), Nat.add_zero]
          simp only [rowUp_at, updA_at, Nat.reduceEqDiff, reduceIte, if_neg ne]
          exact ⟨p1, p2, p3, p4⟩
      · rw [show (rowUp I 428 (updA (I 428) (cntB (isF T N) v) (I 428 (cntB (isF T N) v) + 1))) 431 = I 431 by rw [rowUp_at, if_neg (by decide)]]
        rcases h3 s hs' with ⟨k1, k2⟩ | ⟨w, k1, k2, k3, k4⟩
        · refine Or.inl ⟨k1, fun w hw hlw => ?_⟩
          by_cases e2 : w = n
          · subst e2; exact fun z => (k2 v q1 (isF_l q2)) (by rw [q3, z])
          · exact k2 w (by omega) hlw
        · exact Or.inr ⟨w, by omega, k2, k3, k4⟩
/-- the set of a world, as the class sees it -/
theorem wonIn_ok {T N : Nat → Nat} (h : CR σ I L T N) {w : Nat} (hw : w < 256) : mX11_wonIn 100 (nI w) (nI (stnd T N)) (hk σ I L) = some (nI (ws T N w)) := by
  have hW := h.2.1
  have h18 := (h.2.2.1.bkH hW).1
  have hsa := h.1.2.1
  have hc := h.2.2.2.2.1.2.2.1
  have hst : stnd T N < 256 := Nat.lt_of_lt_of_le (bs_lt _ _) (ev_lt h18)
  unfold mX11_wonIn mX11_wonIn_l5
  rw [if_pos s100]
  refine lp_traj (f := fun s : Int32 × Int32 => mX11_wonIn_l5f 100 (nI w) (nI (stnd T N)) (hk σ I L) s.1 s.2) (N 18) (fun i => (nI (bs (fun k => (stnd T N).testBit k && won T (it N k 0) w) i), nI i)) _ (fun i hi => ?_) ?_
  · show mX11_wonIn_l5f 100 (nI w) (nI (stnd T N)) (hk σ I L) (nI (bs (fun k => (stnd T N).testBit k && won T (it N k 0) w) i)) (nI i) = some (Sum.inl (nI (bs (fun k => (stnd T N).testBit k && won T (it N k 0) w) i ||| (if ((stnd T N).testBit i && won T (it N i 0) w) = true then 2 ^ i else 0)), nI (i + 1)))
    obtain ⟨w1, w2, w3⟩ := h.wonR hi
    unfold mX11_wonIn_l5f mX11_wonIn_b53
    rw [gSa, gI_st hsa, obind, hc, c_lt hi (by omega), has_nI (by omega) (by omega), obind, bI_if0, gLa, ckind_ok h hi, obind, w3, obind, holds_ok w1 (by rw [hpL_hk'']; exact w2) hw, obind, bI_if0, shl1 (by omega), nx_or, nI_1]
    rcases Bool.eq_false_or_eq_true ((stnd T N).testBit i) with e1 | e1 <;> rcases Bool.eq_false_or_eq_true (won T (it N i 0) w) with e2 | e2 <;> simp [e1, e2]
  · show mX11_wonIn_l5f 100 (nI w) (nI (stnd T N)) (hk σ I L) (nI (bs (fun k => (stnd T N).testBit k && won T (it N k 0) w) (N 18))) (nI (N 18)) = _
    unfold mX11_wonIn_l5f
    rw [gSa, gI_st hsa, obind, hc, c_nlt (Nat.le_refl _) (by omega), xts]; rfl
/-- survey -/
theorem survey_ok {T N : Nat → Nat} (h : CR σ I L T N) : ∃ I1 L1, mX11_survey 100 (hk σ I L) = some (hk σ I1 L1) ∧ FrC I L I1 L1 ∧ Rw (L1 415) (lft T N) ∧ TaL T N I1 L1 256 := by
  have hW := h.2.1
  have h18 := (h.2.2.1.bkH hW).1
  have hla := h.1.1
  obtain ⟨r, e1, hr⟩ := remember_ok h
  have h2 : CR σ I (rowUp L 415 r) T N := h.upL (by omega)
  obtain ⟨rc, b, e2⟩ := cstanding_ok h2 (by rw [rowUp_same]; exact hr)
  unfold mX11_survey mX11_survey_l18
  rw [if_pos s100, e1, obind, e2, b2s, gTal]
  unfold mX6_clear
  rw [if_pos (show (hpS (hk σ (rowUp I 432 b) (rowUp (rowUp L 415 r) 417 rc)) 426).1 = 7 from rfl), sI_ok (by rfl), obind, setI_hk, hpI_hk', g6, RF_426_4, wipe_ok (n := 256) rfl (by omega), obind, setI_hk, hpI_hk', obind]
  have f0 : FrC I L (rowUp (rowUp (rowUp I 432 b) 426 (updA (rowUp I 432 b 426) 5 0)) 431 (fun k => if k < 256 then 0 else rowUp (rowUp I 432 b) 426 (updA (rowUp I 432 b 426) 5 0) 431 k)) (rowUp (rowUp L 415 r) 417 rc) :=
    ((((FrC.rf.upL _ (by unfold scC; omega)).upL _ (by unfold scC; omega)).upI _ (by unfold scC; omega)).upI _ (by unfold scC; omega)).upI _ (by unfold scC; omega)
  obtain ⟨o, e, I1, L1, rfl, q1, q2, q3⟩ := lp_inv (f := fun s : Int32 × Hp => mX11_survey_l18f 100 (nI (stnd T N)) s.1 s.2) 256 (fun i st => ∃ I1 L1, st = (nI i, hk σ I1 L1) ∧ FrC I L I1 L1 ∧ Rw (L1 415) (lft T N) ∧ TaL T N I1 L1 i)
    (fun o => ∃ I1 L1, o = hk σ I1 L1 ∧ FrC I L I1 L1 ∧ Rw (L1 415) (lft T N) ∧ TaL T N I1 L1 256)
    (fun i st hi hQ => by
      obtain ⟨I1, L1, rfl, f, hl, ht⟩ := hQ
      have hx : CR σ I1 L1 T N := h.fr f
      show ∃ t, mX11_survey_l18f 100 (nI (stnd T N)) (nI i) (hk σ I1 L1) = some (.inl t) ∧ _
      unfold mX11_survey_l18f mX11_survey_b61
      rw [show (256 : Int32) = nI 256 from rfl, c_lt hi (by omega), gLeft, holds_ok wLeft (by rw [hpL_hk'']; exact hl) hi, obind, bI_if0]
      rcases Bool.eq_false_or_eq_true (lft T N i) with q | q
      · obtain ⟨I2, L2, e, f2, l2, t2⟩ := enter_ok (σ := σ) hW h18 hi q ht
        have hwt := hx.2.2.2.1.2.2.2.2.2.1 i hi
        rw [q, if_neg nTF, gTal, wonIn_ok hx hi, obind, gLa, gR_la hla, obind, RF_la_16 σ hla, at_r (SH_la10 hla) hi (by omega), obind, hwt, show wt T i (T 1) = wg T i from rfl, e, obind, nI_1]
        exact ⟨_, rfl, I2, L2, rfl, f.tr f2, by rw [l2]; exact hl, t2⟩
      · rw [q, if_pos rfl, nI_1]
        exact ⟨_, rfl, I1, L1, rfl, f, hl, TaL_skip q ht⟩)
    (fun st hQ => by
      obtain ⟨I1, L1, rfl, f, hl, ht⟩ := hQ
      refine ⟨_, ?_, I1, L1, rfl, f, hl, ht⟩
      show mX11_survey_l18f 100 (nI (stnd T N)) (nI 256) (hk σ I1 L1) = _
      unfold mX11_survey_l18f
      rw [if_neg (by decide), xts]) (s := (nI 0, hk σ _ _)) ⟨_, _, rfl, f0, by rw [rowUp_at, if_neg (by decide), rowUp_same]; exact hr, by
        refine ⟨?_, fun w hw => absurd hw (Nat.not_lt_zero _), fun s hs => Or.inl ⟨?_, fun w hw => absurd hw (Nat.not_lt_zero _)⟩⟩
        · rw [rowUp_at, if_neg (by decide), rowUp_same, updA_same]; rfl
        · rw [rowUp_same, if_pos hs]⟩
  exact ⟨I1, L1, e, q1, q2, q3⟩
end Tal
