section Asks
variable {σ σ' : Sg} {I I' J J' I1 I2 I3 I4 Ja : Nat → Nat → Int32} {L L' M M' L1 L2 : Nat → Nat → Int64} {S : Nat → Int32} {X : Nat → Nat} {n m i i2 la off t1 t2 t7 fl pl dp h0 kk lim s k b j w r c v a : Nat} {W : Nat → List Nat} {T T' N cd : Nat → Nat} {P : Nat → Nat → Nat} {K : Nat → Bool} {Q : Nat → Nat → Nat}
theorem low2_ok {p w : Nat} (hp : p < 2 ^ 62) (hw0 : 0 < w) (hw : w < 2 ^ 62) (hpw : p ≤ w) : ∃ g, (0 < g ∧ g ≤ w) ∧ (∀ x : Int32, mX11_inLowestTerms (lN p) (lN w) x = some (if x = 0 then lN (p / g) else lN (w / g))) ∧
    ∀ (σ : Sg) (I : Nat → Nat → Int32) (L : Nat → Nat → Int64), mX12_tellsBy 433 (lN p) (lN w) (hk σ I L) = some (hk σ I (rowUp L 433 (updA (updA (L 433) 36 (lN (p / g))) 37 (lN (w / g))))) := by
  obtain ⟨n, h1, h2, h3, h4, h5⟩ := eu_end 62 w p hp hw0
  have hb : ∀ i, i ≤ n → (eu w p i).1 < 2 ^ 62 ∧ (eu w p i).2 < 2 ^ 62 := fun i hi => by have := h5 i hi; omega
  refine ⟨(eu w p n).1, ⟨h3, by have := (h5 n (Nat.le_refl _)).1; omega⟩, fun x => ?_, fun σ I L => ?_⟩
  · unfold mX11_inLowestTerms mX11_inLowestTerms_l9
    refine lp_traj (f := fun s : Int64 × Int64 × Int32 => mX11_inLowestTerms_l9f (lN p) (lN w) x s.1 s.2.1 s.2.2) n (fun i => (lN (eu w p i).1, lN (eu w p i).2, nI i)) _ (fun i hi => ?_) ?_
    · show mX11_inLowestTerms_l9f (lN p) (lN w) x (lN (eu w p i).1) (lN (eu w p i).2) (nI i) = _
      have b := hb i (by omega)
      have b0 := h4 i hi
      unfold mX11_inLowestTerms_l9f
      rw [show (200 : Int32) = nI 200 from rfl, c_lt (show i < 200 by omega) (by omega), if_neg (by rw [lN_0 b.2]; omega), nzL_n b0 b.2, lN_mod b.1 b0 b.2, nI_1]; rfl
    · show mX11_inLowestTerms_l9f (lN p) (lN w) x (lN (eu w p n).1) (lN (eu w p n).2) (nI n) = _
      have b := hb n (Nat.le_refl _)
      unfold mX11_inLowestTerms_l9f mX11_inLowestTerms_b45 mX11_inLowestTerms_b73
      rw [show (200 : Int32) = nI 200 from rfl, c_lt (show n < 200 by omega) (by omega), if_pos (by rw [lN_0 b.2]; exact h2), if_neg (show ¬ lg_cmp (lN (eu w p n).1) 0 = 0 by rw [lN_0 b.1]; omega), nzL_n h3 b.1, nzL_n h3 b.1, lN_div hp h3 b.1, lN_div hw h3 b.1]
      split <;> rfl
  · unfold mX12_tellsBy mX12_tellsBy_l6
    rw [if_pos s433]
    refine lp_traj (f := fun s : Int64 × Int64 => mX12_tellsBy_l6f 433 (lN p) (lN w) (hk σ I L) s.1 s.2) n (fun i => (lN (eu w p i).1, lN (eu w p i).2)) _ (fun i hi => ?_) ?_
    · show mX12_tellsBy_l6f 433 (lN p) (lN w) (hk σ I L) (lN (eu w p i).1) (lN (eu w p i).2) = _
      have b := hb i (by omega)
      have b0 := h4 i hi
      unfold mX12_tellsBy_l6f
      rw [if_neg (by rw [lN_0 b.2]; omega), nzL_n b0 b.2, lN_mod b.1 b0 b.2]; rfl
    · show mX12_tellsBy_l6f 433 (lN p) (lN w) (hk σ I L) (lN (eu w p n).1) (lN (eu w p n).2) = _
      have b := hb n (Nat.le_refl _)
      unfold mX12_tellsBy_l6f
      rw [if_pos (by rw [lN_0 b.2]; exact h2), nzL_n h3 b.1, lN_div hp h3 b.1, sL_ok (by rfl), obind, setL_hk, nzL_n h3 b.1, lN_div hw h3 b.1, sL_ok (by rfl), obind, setL_hk, rowUp_two, hpL_hk'', rowUp_same, xts, hpL_hk'']
theorem sm_and {g : Nat → Nat} {p q : Nat → Bool} : ∀ n, sm g (fun w => p w && q w) n ≤ sm g p n
  | 0 => Nat.le_refl _
  | n + 1 => by
    have := sm_and (g := g) (p := p) (q := q) n
    show sm g (fun w => p w && q w) n + (if (p n && q n) = true then g n else 0) ≤ sm g p n + (if p n = true then g n else 0)
    cases p n <;> cases q n <;> simp <;> omega
/-- code further along -/
theorem hAt_sh {cd ce : Nat → Nat} {a m : Nat} (h : ∀ s, s < m → ce (a + s) = cd s) : ∀ n, n ≤ m → hAt ce a n = hAt cd 0 n := by
  intro n
  induction n with
  | zero => intro _; rfl
  | succ n ih =>
    intro hn
    simp only [hAt]
    rw [ih (by omega), h n (by omega), Nat.zero_add]
theorem runV_sh {q : VP} {cd ce : Nat → Nat} {a m : Nat} (h : ∀ s, s < m → ce (a + s) = cd s) : ∀ n, n ≤ m → runV q ce a n = runV q cd 0 n := by
  intro n
  induction n with
  | zero => intro _; rfl
  | succ n ih =>
    intro hn
    simp only [runV]
    rw [ih (by omega), h n (by omega), Nat.zero_add]
theorem CLw.eq3 (hla : isLa la) (hW : WT T) (h6 : CLw I L la T) (hn : ∀ j, j < 78 → j ≠ 7 → I' (la + j) = I (la + j)) (h7 : ∀ i, i < T 7 → I' (la + 7) i = I (la + 7) i) (hl : ∀ j, j < 78 → L' (la + j) = L (la + j)) : CLw I' L' la T := by
  have c := h6.eq2 (I' := rowUp I' (la + 7) (I (la + 7))) (L' := L') hla hW (fun j hj => by
    by_cases q : j = 7
    · rw [q, rowUp_same]
    · rw [rowUp_ne _ _ (by omega)]; exact hn j hj q) hl
  obtain ⟨b1, b2, b3, b4, b5, b6, b7⟩ := c
  rw [rowUp_ne (a := la + 7) (b := la) _ _ (by omega)] at b1
  refine ⟨b1, fun i hi => ?_, fun k hk' => ?_, fun p hp => ?_, fun i hi => ?_, fun i hi => ?_, b7⟩
  · have := b2 i hi
    rw [rowUp_ne _ _ (by omega)] at this; exact this
  · have := b3 k hk'
    rw [rowUp_ne (a := la + 7) (b := la + 3) _ _ (by omega), rowUp_ne (a := la + 7) (b := la + 6) _ _ (by omega), rowUp_ne (a := la + 7) (b := la + 8) _ _ (by omega), rowUp_ne (a := la + 7) (b := la + 9) _ _ (by omega)] at this
    exact this
  · have := b4 p hp
    rw [rowUp_ne (a := la + 7) (b := la + 4) _ _ (by omega), rowUp_ne (a := la + 7) (b := la + 8) _ _ (by omega), rowUp_ne (a := la + 7) (b := la + 9) _ _ (by omega)] at this
    exact this
  · have := b5 i hi
    rw [rowUp_same] at this
    rw [h7 i hi]; exact this
  · have := b6 i hi
    rw [rowUp_ne _ _ (by omega)] at this; exact this
theorem BI.su3 (h : BI σ I L T N a P K Q) (ea : gla σ' = gla σ) (es : gsa σ' = gsa σ) (f : ∀ x, Kp (gla σ) (gsa σ) x → x ≠ gla σ + 7 → I' x = I x) (fl : ∀ x, Kp (gla σ) (gsa σ) x → L' x = L x) (f7 : ∀ i, i < T 7 → I' (gla σ + 7) i = I (gla σ + 7) i) (f8 : I' 433 8 = I 433 8) : BI σ' I' L' T N a P K Q := by
  obtain ⟨⟨⟨h1, h2, h3⟩, h4, h5, h6, h7⟩, hM, hE, ⟨p1, p2, p3, p4, p5, p6, p7⟩, hP, hTh⟩ := h
  have hla := h1
  have hga' : gla σ = 112 ∨ gla σ = 190 := h1
  have hsa : gsa σ = 268 ∨ gsa σ = 275 := by unfold isSt at h2; omega
  refine ⟨⟨⟨by rw [ea]; exact h1, by rw [es]; exact h2, fun k hk' => by rw [fl 2 (by unfold Kp; omega)]; exact h3 k hk'⟩, h4, h5, ?_, ?_⟩, hM.fw fun x hx => f x (by unfold Kp; omega) (by omega), hE, ?_, fun k hk' => by rw [f 3 (by unfold Kp; omega) (by omega)]; exact hP k hk', fun k hk' => by rw [f 421 (by unfold Kp; omega) (by omega)]; exact hTh k hk'⟩
  · rw [ea]
    exact h6.eq3 hla h4 (fun j hj h => f _ (by unfold Kp; omega) (by omega)) f7 (fun j hj => fl _ (by unfold Kp; omega))
  · rw [es]
    exact h7.eq fun x a b => f x (by unfold Kp; omega) (by omega)
  · have f1 : ∀ x, (285 ≤ x ∧ x < 414) ∨ (439 ≤ x ∧ x ≤ 441) → I' x = I x := fun x hx => f x (by unfold Kp; omega) (by omega)
    exact ⟨by rw [es]; exact p1, p2.fr (by rw [f1 285 (by omega)]) (by rw [f1 285 (by omega)]) (fun x a b => f1 x (by omega)), p3.fr ⟨f8, f1 439 (by omega)⟩, p4.fr (by rw [f1 285 (by omega)]) (fun x a b => f1 x (by omega)), p5.fr ⟨f1 440 (by omega), f1 441 (by omega)⟩, p6, p7⟩
/-- what is asked, in a world -/
def fA (cd : Nat → Nat) (t7 w : Nat) : Bool := (evP (qw w) cd 0 t7).1
/-- the class, once the question is read -/
theorem cask_ok (h : CR σ I L T N) (hc : ∀ j, j < t7 → I (gla σ + 7) (T 7 + j) = nI (cc (cd j))) (hw : wfE cd 0 t7) (hb : T 7 + t7 ≤ 960) :
    ∃ hh L2 g, (0 < g ∧ g ≤ sm (wg T) (lft T N) 256) ∧ ((mX11_remember 100 (hk σ I L)).bind fun h18 => (gR 11 2 100 h18).bind fun v19 => (gR 11 3 100 h18).bind fun v20 => (gR 1 12 v20 h18).bind fun v21 => (gR 11 11 100 h18).bind fun v22 => (mX4_tabulate v19 v21 (nI (T 7)) (nI (T 7 + t7)) v22 h18).bind fun h24 => (gR 11 9 100 h24).bind fun v25 => (gR 11 11 100 h24).bind fun v26 => (mX10_howIn v25 v26 h24).bind fun v27 => (gR 11 3 100 h24).bind fun v29 => (gR 11 9 100 h24).bind fun v30 => (mX1_weigh v29 v30 h24).bind fun v31 => (gR 11 9 100 h24).bind fun v33 => (gR 11 11 100 h24).bind fun v34 => (mX10_and v33 v34 h24).bind fun h36 => (gR 11 3 100 h36).bind fun v37 => (gR 11 9 100 h36).bind fun v38 => (mX1_weigh v37 v38 h36).bind fun v39 => (mX11_inLowestTerms v39 v31 (0 : Int32)).bind fun v41 => (sL 11 16 100 v41 h36).bind fun h43 => (mX11_inLowestTerms v39 v31 (1 : Int32)).bind fun v44 => (sL 11 17 100 v44 h43).bind fun h46 => some (v27, h46)) = some (how3 (lft T N) (fA cd t7), hk σ (rowUp I 108 hh) L2) ∧
      L2 100 16 = lN (sm (wg T) (fun w => lft T N w && fA cd t7 w) 256 / g) ∧ L2 100 17 = lN (sm (wg T) (lft T N) 256 / g) ∧ (∀ x, x ≠ 100 → (x < 108 ∨ 111 < x) → x ≠ 415 → x ≠ 419 → L2 x = L x) ∧
      ∀ (σ : Sg) (I : Nat → Nat → Int32) (L : Nat → Nat → Int64), mX12_tellsBy 433 (lN (sm (wg T) (fun w => lft T N w && fA cd t7 w) 256)) (lN (sm (wg T) (lft T N) 256)) (hk σ I L) = some (hk σ I (rowUp L 433 (updA (updA (L 433) 36 (lN (sm (wg T) (fun w => lft T N w && fA cd t7 w) 256 / g))) 37 (lN (sm (wg T) (lft T N) 256 / g))))) := by
  have hla := h.1.1
  have hga' : gla σ = 112 ∨ gla σ = 190 := hla
  have hW := h.2.1
  obtain ⟨r, e1, hr⟩ := remember_ok h
  have h2 : CR σ I (rowUp L 415 r) T N := h.upL (by omega)
  have sh : ∀ s, s < t7 → (fun s => cd (s - T 7)) (T 7 + s) = cd s := fun s _ => by show cd (T 7 + s - T 7) = cd s; rw [Nat.add_sub_cancel_left]
  have sub : T 7 + t7 - T 7 = t7 := Nat.add_sub_cancel_left _ _
  obtain ⟨hh, y, n', z, r2, te, tr⟩ := tab_ok (σ := σ) (I := I) (L := rowUp L 415 r) h2.1.2.2 (gla σ + 7) (SH_la7 hla) (by omega) (fun s => cd (s - T 7)) (T 7) (T 7 + t7) (by omega) hb (fun s hs => by
    rw [sub] at hs
    rw [Nat.add_sub_cancel_left, hAt_sh sh s (by omega)]
    have := hw.2.1 s (by omega)
    rw [Nat.zero_add] at this
    exact this) (fun j h1 h2 => by
    have := hc (j - T 7) (by omega)
    rw [show T 7 + (j - T 7) = j by omega] at this
    exact this) 418 419 (fun _ _ => wSpr) (by omega) (by omega) (by omega) (by omega)
  have tr : Rw r2 (fA cd t7) := by
    have := tr (by rw [sub, hAt_sh sh t7 (Nat.le_refl _)]; have := hw.2.2; rw [Nat.sub_zero] at this; rw [this]; exact Nat.le_refl _)
    refine this.cg fun w _ => ?_
    unfold fA evP
    rw [sub, runV_sh sh t7 (Nat.le_refl _), Nat.sub_zero]
  obtain ⟨I5, hI5⟩ : ∃ I5, I5 = rowUp I 108 hh := ⟨_, rfl⟩
  obtain ⟨L5, hL5⟩ : ∃ L5, L5 = rowUp (rowUp (rowUp (rowUp (rowUp L 415 r) 419 r2) 109 y) 110 n') 111 z := ⟨_, rfl⟩
  have te : mX4_tabulate 108 (gla σ + 7) (nI (T 7)) (nI (T 7 + t7)) 418 (hk σ I (rowUp L 415 r)) = some (hk σ I5 L5) := by rw [hI5, hL5]; exact te
  have fr : FrC I L I5 L5 := by
    rw [hI5, hL5]
    exact (((((FrC.rf.upI hh (by unfold scC; omega)).upL r (by unfold scC; omega)).upL r2 (by unfold scC; omega)).upL y (by unfold scC; omega)).upL n' (by unfold scC; omega)).upL z (by unfold scC; omega)
  have h5 : CR σ I5 L5 T N := h.fr fr
  have l415 : L5 415 = r := by rw [hL5, rowUp_ne _ _ (by omega), rowUp_ne _ _ (by omega), rowUp_ne _ _ (by omega), rowUp_ne _ _ (by omega), rowUp_same]
  have l419 : L5 419 = r2 := by rw [hL5, rowUp_ne _ _ (by omega), rowUp_ne _ _ (by omega), rowUp_ne _ _ (by omega), rowUp_same]
  have hi := howIn_ok (h := hk σ I5 L5) (f := lft T N) (g := fA cd t7) (wLeft (σ := σ) (I := I5) (L := L5)) (wSpr (σ := σ) (I := I5) (L := L5)) (by show Rw (L5 415) _; rw [l415]; exact hr) (by show Rw (L5 419) _; rw [l419]; exact tr)
  obtain ⟨r3, ae, ar⟩ := and_ok (h := hk σ I5 L5) (f := lft T N) (g := fA cd t7) (wLeft (σ := σ) (I := I5) (L := L5)) (wSpr (σ := σ) (I := I5) (L := L5)) (by omega) (by show Rw (L5 415) _; rw [l415]; exact hr) (by show Rw (L5 419) _; rw [l419]; exact tr)
  rw [setL_hk] at ae
  have h6 : CR σ I5 (rowUp L5 415 r3) T N := h5.upL (by omega)
  have b1 := sm_b hW (lft T N) (n := 256) (Nat.le_refl _)
  have b2 := sm_b hW (fun w => lft T N w && fA cd t7 w) (n := 256) (Nat.le_refl _)
  obtain ⟨g, hg, g1, g2⟩ := low2_ok (p := sm (wg T) (fun w => lft T N w && fA cd t7 w) 256) (w := sm (wg T) (lft T N) 256) (by omega) (all_pos hW h.2.2.1) (by omega) (sm_and _)
  refine ⟨hh, rowUp (rowUp L5 415 r3) 100 (updA (updA (L5 100) 16 (lN (sm (wg T) (fun w => lft T N w && fA cd t7 w) 256 / g))) 17 (lN (sm (wg T) (lft T N) 256 / g))), g, hg, ?_, ?_, ?_, fun x a b c d => ?_, g2⟩
  · rw [e1, obind, show gR 11 2 100 (hk σ I (rowUp L 415 r)) = some 108 from rfl, obind, gLa, gR_la hla, obind, RF_la_12 σ hla, gSpr, te, obind, gLeft, gSpr, hi, obind, gLa, gLeft, weigh_ok h5 (wLeft (σ := σ) (I := I5) (L := L5)) (by rw [l415]; exact hr), obind, gLeft, gSpr, ae, obind, gLa, gLeft, weigh_ok h6 (wLeft (σ := σ) (I := I5) (L := rowUp L5 415 r3)) (by rw [rowUp_same]; exact ar), obind, g1, if_pos rfl, obind, sL_ok s100, obind, setL_hk, hpL_hk'', rowUp_ne (a := 415) (b := 100) _ _ (by omega), g1, if_neg (by decide), obind, sL_ok s100, obind, setL_hk, hpL_hk'', rowUp_two, rowUp_same, hI5]
  · rw [rowUp_same, updA_ne _ _ (by omega), updA_same]
  · rw [rowUp_same, updA_same]
  · rw [rowUp_ne _ _ a, rowUp_ne _ _ c, hL5, rowUp_ne _ _ (by omega), rowUp_ne _ _ (by omega), rowUp_ne _ _ (by omega), rowUp_ne _ _ d, rowUp_ne _ _ c]
theorem cnt_all {p q : Nat → Bool} : ∀ n, (allB (fun w => !p w || q w) n = true ↔ cntB (fun w => p w && q w) n = cntB p n) ∧ cntB (fun w => p w && q w) n ≤ cntB p n
  | 0 => ⟨⟨fun _ => rfl, fun _ => rfl⟩, Nat.le_refl _⟩
  | n + 1 => by
    obtain ⟨h1, h2⟩ := cnt_all (p := p) (q := q) n
    have e1 : cntB (fun w => p w && q w) (n + 1) = cntB (fun w => p w && q w) n + (if (p n && q n) = true then 1 else 0) := rfl
    have e2 : cntB p (n + 1) = cntB p n + (if p n = true then 1 else 0) := rfl
    have e3 : allB (fun w => !p w || q w) (n + 1) = (allB (fun w => !p w || q w) n && (!p n || q n)) := rfl
    rw [e1, e2, e3, Bool.and_eq_true, h1]
    cases p n <;> cases q n <;> simp <;> omega
/-- the model, once the question is read -/
theorem mrest_ok (hM : MI J T N) (h17 : J 433 17 = 0) (h84 : J 435 84 = nI 0) (h117 : J 435 117 = nI t7) (hc : ∀ j, j < t7 → J 435 (150 + j) = nI (cd j)) (hw : wfE cd 0 t7) (h480 : t7 ≤ 480) {g : Nat} {u q : Int64}
    (ht : ∀ (σ : Sg) (I : Nat → Nat → Int32) (L : Nat → Nat → Int64), mX12_tellsBy 433 (lN (sm (wg T) (fun w => lft T N w && fA cd t7 w) 256)) (lN (sm (wg T) (lft T N) 256)) (hk σ I L) = some (hk σ I (rowUp L 433 (updA (updA (L 433) 36 u) 37 q)))) :
    ∃ J' M', mX12_ask_b75 433 (hk σ J M) = some (how3 (lft T N) (fA cd t7), hk σ J' M') ∧ J' 433 19 = 0 ∧ J' 433 20 = -1 ∧ J' 433 39 = 1 ∧ M' 433 40 = u ∧ M' 433 41 = q ∧ (∀ x, x ≠ 433 → x ≠ 443 → J' x = J x) ∧ (∀ k, k ≠ 19 → k ≠ 20 → k ≠ 39 → J' 433 k = J 433 k) ∧ ∀ x, x ≠ 433 → M' x = M x := by
  obtain ⟨J1, e1, f19, f20, fx, fk⟩ := isRead_ok (σ := σ) (J := J) (M := M)
  rw [h17] at f19
  rw [h17, if_pos rfl] at f20
  rw [decide_eq_true h17] at e1
  have hM1 : ∀ R, MI (rowUp J1 443 R) T N := fun R => (hM.fw (I' := J1) (fun x hx => fx x (by omega))).up (by omega) (by omega) (by omega)
  have hW := hM.2.2.1
  have b1 := sm_b hW (lft T N) (n := 256) (Nat.le_refl _)
  have key : ∃ o, mX12_ask_l94 433 0 0 0 0 (hk σ J1 M) = some o ∧ ∃ R J', o = (how3 (lft T N) (fA cd t7), hk σ J' (rowUp M 433 (updA (updA (updA (updA (M 433) 36 u) 37 q) 40 u) 41 q))) ∧ J' = rowUp (rowUp J1 443 R) 433 (updA (J1 433) 39 1) := by
    have h0 : hk σ J1 M = hk σ (rowUp J1 443 (J1 443)) M := by rw [rowUp_id]
    rw [h0]
    unfold mX12_ask_l94
    refine lp_inv (f := fun s : Int32 × Int64 × Int64 × Int32 × Hp => mX12_ask_l94f 433 s.1 s.2.1 s.2.2.1 s.2.2.2.1 s.2.2.2.2) 256 (fun w st => ∃ R, st = (nI (cntB (fun w => lft T N w && fA cd t7 w) w), lN (sm (wg T) (fun w => lft T N w && fA cd t7 w) w), lN (sm (wg T) (lft T N) w), nI w, hk σ (rowUp J1 443 R) M)) _ (fun w st hw256 hQ => ?_) (fun st hQ => ?_) (s := (0, 0, 0, 0, hk σ (rowUp J1 443 (J1 443)) M)) ⟨_, rfl⟩
    · obtain ⟨R, rfl⟩ := hQ
      have hl := (hM1 R).left (σ := σ) (L := M) hw256
      have hwt := mweight_ok (σ := σ) (L := M) (hM1 R) hw256
      have ec : cntB (fun w => lft T N w && fA cd t7 w) (w + 1) = cntB (fun w => lft T N w && fA cd t7 w) w + (if (lft T N w && fA cd t7 w) = true then 1 else 0) := rfl
      have es : sm (wg T) (fun w => lft T N w && fA cd t7 w) (w + 1) = sm (wg T) (fun w => lft T N w && fA cd t7 w) w + (if (lft T N w && fA cd t7 w) = true then wg T w else 0) := rfl
      have ea : sm (wg T) (lft T N) (w + 1) = sm (wg T) (lft T N) w + (if lft T N w = true then wg T w else 0) := rfl
      cases hq : lft T N w with
      | false =>
        refine ⟨(nI (cntB (fun w => lft T N w && fA cd t7 w) (w + 1)), lN (sm (wg T) (fun w => lft T N w && fA cd t7 w) (w + 1)), lN (sm (wg T) (lft T N) (w + 1)), nI (w + 1), hk σ (rowUp J1 443 R) M), ?_, R, rfl⟩
        show mX12_ask_l94f 433 (nI (cntB (fun w => lft T N w && fA cd t7 w) w)) (lN (sm (wg T) (fun w => lft T N w && fA cd t7 w) w)) (lN (sm (wg T) (lft T N) w)) (nI w) (hk σ (rowUp J1 443 R) M) = _
        rw [ec, es, ea, hq]
        unfold mX12_ask_l94f mX12_ask_b130 mX12_ask_b131 mX12_ask_b144 mX12_ask_b162 mX12_ask_b185
        rw [hq] at hl
        rw [if_pos (show nI w < (256 : Int32) from nI_lt (b := 256) hw256 (by omega)), hl, obind, if_pos (show bI false = 0 from rfl), if_pos rfl, if_pos rfl, obind, if_pos (show bI false = 0 from rfl), nI_1, show (0 : Int32) = nI 0 from rfl, nI_add, show (0 : Int64) = lN 0 from rfl, lN_add, lN_add]
        rfl
      | true =>
        obtain ⟨R', e⟩ := mholds_ok (σ := σ) (I := rowUp J1 443 R) (L := M) 435 rfl (by omega) cd 0 w 0 t7 (by rw [rowUp_ne _ _ (by omega), fx 435 (by omega)]; exact h84) (by rw [rowUp_ne _ _ (by omega), fx 435 (by omega)]; exact h117) (by omega) hw256 (by omega) (fun j _ h2 => by rw [rowUp_ne _ _ (by omega), fx 435 (by omega)]; exact hc j h2) hw
        have e : mX12_holds 433 435 (0 : Int32) (nI w) (hk σ (rowUp J1 443 R) M) = some (bI (fA cd t7 w), hk σ (rowUp J1 443 R') M) := by rw [rowUp_two] at e; exact e
        have hl' := (hM1 R').left (σ := σ) (L := M) hw256
        have hwt' := mweight_ok (σ := σ) (L := M) (hM1 R') hw256
        rw [hq] at hl hl'
        refine ⟨(nI (cntB (fun w => lft T N w && fA cd t7 w) (w + 1)), lN (sm (wg T) (fun w => lft T N w && fA cd t7 w) (w + 1)), lN (sm (wg T) (lft T N) (w + 1)), nI (w + 1), hk σ (rowUp J1 443 R') M), ?_, R', rfl⟩
        show mX12_ask_l94f 433 (nI (cntB (fun w => lft T N w && fA cd t7 w) w)) (lN (sm (wg T) (fun w => lft T N w && fA cd t7 w) w)) (lN (sm (wg T) (lft T N) w)) (nI w) (hk σ (rowUp J1 443 R) M) = _
        rw [ec, es, ea, hq]
        unfold mX12_ask_l94f mX12_ask_b130 mX12_ask_b131 mX12_ask_b144 mX12_ask_b162 mX12_ask_b185
        rw [if_pos (show nI w < (256 : Int32) from nI_lt (b := 256) hw256 (by omega)), hl, obind, if_neg (show ¬ bI true = 0 by decide), gM 1, RF_433_1, e, b2s]
        cases hf : fA cd t7 w with
        | false =>
          rw [if_neg (show ¬ bI false = 1 by decide), if_pos rfl, if_pos rfl, hl', obind, if_neg (show ¬ bI true = 0 by decide), hwt', obind, nI_1, show (0 : Int32) = nI 0 from rfl, nI_add, show (0 : Int64) = lN 0 from rfl, lN_add, lN_add]
          rfl
        | true =>
          rw [if_pos (show bI true = 1 from rfl), if_neg (show ¬ (1 : Int32) = 0 by decide), if_neg (show ¬ (1 : Int32) = 0 by decide), hwt', obind, hl', obind, if_neg (show ¬ bI true = 0 by decide), obind, nI_1, nI_1, lN_add, lN_add]
          rfl
    · obtain ⟨R, rfl⟩ := hQ
      obtain ⟨c1, c2⟩ := cnt_all (p := lft T N) (q := fA cd t7) 256
      have c3 := cntB_le (lft T N) 256
      have c0 : 0 < cntB (lft T N) 256 := by
        obtain ⟨w, h1, h2⟩ := hM.2.2.2.1.2.2.2.2.2
        rcases Nat.eq_zero_or_pos (cntB (lft T N) 256) with z | z
        · have := cntB_0.mp z
          rw [anyB_iff.mpr ⟨w, h1, h2⟩] at this; cases this
        · exact z
      have hmany : mX12_many 447 (hk σ (rowUp (rowUp J1 443 R) 433 (updA (J1 433) 39 1)) (rowUp M 433 (updA (updA (updA (updA (M 433) 36 u) 37 q) 40 u) 41 q))) = some (nI (cntB (lft T N) 256)) := many_ok (a := 447) (n := 8) rfl (by omega) (by omega) (by rw [rowUp_ne _ _ (by omega)]; exact (hM1 R).2.2.2.2.2.2.2)
      refine ⟨_, ?_, R, _, rfl, rfl⟩
      show mX12_ask_l94f 433 (nI (cntB (fun w => lft T N w && fA cd t7 w) 256)) (lN (sm (wg T) (fun w => lft T N w && fA cd t7 w) 256)) (lN (sm (wg T) (lft T N) 256)) (nI 256) (hk σ (rowUp J1 443 R) M) = _
      unfold mX12_ask_l94f
      rw [if_neg (show ¬ nI 256 < (256 : Int32) by decide), ht, obind, sZ_ok s433 (Or.inr rfl), obind, setI_hk, hpI_hk', rowUp_ne (a := 443) (b := 433) _ _ (by omega), gML, obind, rowUp_same, updA_ne _ _ (by omega), updA_same, sL_ok s433, obind, setL_hk, hpL_hk'', rowUp_two, rowUp_same, gML, obind, rowUp_same, updA_ne _ _ (by omega), updA_same, sL_ok s433, obind, setL_hk, hpL_hk'', rowUp_two, rowUp_same, c_0 (by omega)]
      unfold how3
      by_cases q0 : cntB (fun w => lft T N w && fA cd t7 w) 256 = 0
      · have na : ¬ allB (fun w => !lft T N w || fA cd t7 w) 256 = true := fun z => by have := c1.mp z; omega
        have ny : ¬ anyB (fun w => lft T N w && fA cd t7 w) 256 = true := fun z => by rw [cntB_0.mp q0] at z; cases z
        rw [if_pos q0, xts, if_neg na, if_neg ny]
      · have ny : anyB (fun w => lft T N w && fA cd t7 w) 256 = true := by
          cases z : anyB (fun w => lft T N w && fA cd t7 w) 256
          · exact absurd (cntB_0.mpr z) q0
          · rfl
        rw [if_neg q0, gM 27, show RF σ 433 27 = 447 from rfl, hmany, obind, c_eqd (by omega) (by omega)]
        by_cases q1 : cntB (fun w => lft T N w && fA cd t7 w) 256 = cntB (lft T N) 256
        · rw [if_pos q1, xts, if_pos (c1.mpr q1)]
        · rw [if_neg q1, xts, if_neg (fun z => q1 (c1.mp z)), if_pos ny]
  obtain ⟨o, eo, R, J', ho, hJ'⟩ := key
  subst ho
  refine ⟨J', rowUp M 433 (updA (updA (updA (updA (M 433) 36 u) 37 q) 40 u) 41 q), ?_, ?_, ?_, ?_, ?_, ?_, fun x a b => ?_, fun k a b c => ?_, fun x a => rowUp_ne _ _ a⟩
  · unfold mX12_ask_b75
    rw [e1, b2s, if_neg (show ¬ bI true = 0 by decide), eo]
  · rw [hJ', rowUp_same, updA_ne _ _ (by omega)]; exact f19
  · rw [hJ', rowUp_same, updA_ne _ _ (by omega)]; exact f20
  · rw [hJ', rowUp_same, updA_same]
  · rw [rowUp_same, updA_ne _ _ (by omega), updA_same]
  · rw [rowUp_same, updA_same]
  · rw [hJ', rowUp_ne _ _ a, rowUp_ne _ _ b, fx x a]
  · rw [hJ', rowUp_same, updA_ne _ _ c, fk k a b]
end Asks
