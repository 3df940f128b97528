/-! THE ACTS, the class alone -/
/-- what an act of the class leaves as it was -/
def FrA (I : Nat → Nat → Int32) (L : Nat → Nat → Int64) (I' : Nat → Nat → Int32) (L' : Nat → Nat → Int64) : Prop := ∀ x, (x < 108 ∨ (112 ≤ x ∧ x < 268) ∨ (282 ≤ x ∧ x ≤ 284) ∨ x = 421 ∨ 433 ≤ x) → I' x = I x ∧ L' x = L x
def CPA (σ : Sg) (I : Nat → Nat → Int32) (T : Nat → Nat) (a : Nat) (P : Nat → Nat → Nat) (K : Nat → Bool) (Q : Nat → Nat → Nat) : Prop :=
  gsa σ < 282 ∧ HC I a P ∧ KC I K Q ∧ (∀ j, j < a → EX T (P j)) ∧ ∀ i, i < 2 → K i = true → EX T (Q i)
/-- all that holds of the class between calls -/
def CB (σ : Sg) (I : Nat → Nat → Int32) (L : Nat → Nat → Int64) (T N : Nat → Nat) (a : Nat) (P : Nat → Nat → Nat) (K : Nat → Bool) (Q : Nat → Nat → Nat) : Prop :=
  CR σ I L T N ∧ EX T N ∧ CPA σ I T a P K Q ∧ Th I
/-- a call that may be an act: refused, or one more is noted -/
def AX (σ : Sg) (I : Nat → Nat → Int32) (L : Nat → Nat → Int64) (T N : Nat → Nat) (a : Nat) (P : Nat → Nat → Nat) (K : Nat → Bool) (Q : Nat → Nat → Nat) (cls : Option (Int32 × Hp)) (Bd : Prop) (Gd : (Nat → Nat) → Prop) : Prop :=
  ∃ v I1 L1, cls = some (v, hk σ I1 L1) ∧ FrA I L I1 L1 ∧ ((v < 0 ∧ CB σ I1 L1 T N a P K Q ∧ Bd) ∨ (¬ v < 0 ∧ ∃ N', CB σ I1 L1 T N' (min (a + 1) 16) (psh a P N) K Q ∧ Gd N'))
section C4
variable {σ : Sg} {I I' J I1 I2 Ja : Nat → Nat → Int32} {L L' L1 L2 : Nat → Nat → Int64} {T N N' M : Nat → Nat} {a a' : Nat} {P P' : Nat → Nat → Nat} {K K' : Nat → Bool} {Q Q' : Nat → Nat → Nat}
theorem FrA.rf : FrA I L I L := fun _ _ => ⟨rfl, rfl⟩
theorem FrA.tr (h : FrA I L I1 L1) (g : FrA I1 L1 I2 L2) : FrA I L I2 L2 := fun x hx => ⟨by rw [(g x hx).1, (h x hx).1], by rw [(g x hx).2, (h x hx).2]⟩
theorem FrA.f0 (h : FrA I L I1 L1) : Fr0 I L I1 L1 :=
  ⟨fun x hx => h x (by unfold KR at hx; omega), fun k _ _ _ => by rw [(h 433 (by omega)).1], fun k _ _ => by rw [(h 433 (by omega)).2]⟩
theorem FrC.fA (h : FrC I L I' L') : FrA I L I' L' := fun x hx => h x (by unfold scC; omega)
theorem CPA.q (h : CPA σ I T a P K Q) (f : ∀ x, 285 ≤ x → x < 414 → I' x = I x) : CPA σ I' T a P K Q := by
  obtain ⟨p1, p2, p4, p6, p7⟩ := h
  exact ⟨p1, p2.fr (by rw [f 285 (by omega) (by omega)]) (by rw [f 285 (by omega) (by omega)]) (fun x a b => f x (by omega) (by omega)), p4.fr (by rw [f 285 (by omega) (by omega)]) (fun x a b => f x (by omega) (by omega)), p6, p7⟩
theorem CB.q (h : CB σ I L T N a P K Q) (fC : FrC I L I1 L1) : CB σ I1 L1 T N a P K Q :=
  ⟨h.1.fr fC, h.2.1, h.2.2.1.q fun x a b => (fC x (by unfold scC; omega)).1, h.2.2.2.frC fC⟩
theorem AX.q {cls : Option (Int32 × Hp)} {Bd : Prop} {Gd : (Nat → Nat) → Prop} (h : CB σ I L T N a P K Q) {v : Int32} (hv : v < 0) (e1 : cls = some (v, hk σ I1 L1)) (fC : FrC I L I1 L1) (b : Bd) : AX σ I L T N a P K Q cls Bd Gd :=
  ⟨v, I1, L1, e1, fC.fA, Or.inl ⟨hv, h.q fC, b⟩⟩
theorem AX.no {cls : Option (Int32 × Hp)} {Bd : Prop} {Gd : (Nat → Nat) → Prop} (h : CB σ I L T N a P K Q) {v : Int32} (hv : v < 0) {r : Nat → Int64} (e1 : cls = some (v, hk σ I (rowUp L 415 r))) (b : Bd) : AX σ I L T N a P K Q cls Bd Gd :=
  AX.q h hv e1 (FrC.rf.upL r (by unfold scC; omega)) b
theorem AX.no' {cls : Option (Int32 × Hp)} {Bd : Prop} {Gd : (Nat → Nat) → Prop} (h : CB σ I L T N a P K Q) {v : Int32} (hv : v < 0) (e1 : cls = some (v, hk σ I L)) (b : Bd) : AX σ I L T N a P K Q cls Bd Gd :=
  AX.q h hv e1 FrC.rf b
/-- an act is through -/
theorem cact_done (h : CB σ I L T N a P K Q) (hEX : EX T N') (jHC : HC Ja a' P') (jf : ∀ x, (x < 285 ∨ x = 286 ∨ x = 287 ∨ 400 ≤ x) → Ja x = I x) (j5 : ∀ k, k ≠ 3 → k ≠ 4 → Ja 285 k = I 285 k)
    (i1 : CSt I1 (gsa σ) N') (if1 : ∀ x, (x < gsa σ ∨ gsa σ + 7 ≤ x) → I1 x = Ja x) (L1f : ∀ x, x ≠ 415 → L1 x = L x) (hP' : ∀ j, j < a' → EX T (P' j)) : CB σ I1 L1 T N' a' P' K Q ∧ FrA I L I1 L1 := by
  obtain ⟨h1, h3, ⟨p1, p2, p4, p6, p7⟩, h6⟩ := h
  have hsa := h1.1.2.1
  have g1 : 268 ≤ gsa σ := by unfold isSt at hsa; omega
  have g2 : gsa σ + 7 ≤ 282 := by unfold isSt at hsa; omega
  have e3 : ∀ x, (x < gsa σ ∨ gsa σ + 7 ≤ x) → (x < 285 ∨ x = 286 ∨ x = 287 ∨ 400 ≤ x) → I1 x = I x := fun x e f => by rw [if1 x e, jf x f]
  have fA : FrA I L I1 L1 := fun x hx => ⟨e3 x (by omega) (by omega), L1f x (by omega)⟩
  refine ⟨⟨h1.act fA.f0 i1 hEX.1, hEX, ⟨p1, ?_, ?_, hP', p7⟩, h6.f0 fA.f0⟩, fA⟩
  · exact jHC.fr (by rw [if1 285 (by omega)]) (by rw [if1 285 (by omega)]) (fun x a b => if1 x (by omega))
  · exact p4.fr (by rw [if1 285 (by omega), j5 2 (by omega) (by omega)]) (fun x a b => e3 x (by omega) (by omega))
/-- an act is noted -/
theorem CB.note (h : CB σ I L T N a P K Q) (Lx : Nat → Nat → Int64) : ∃ Ja, mX0_note 285 (gsa σ) (hk σ I Lx) = some (hk σ Ja Lx) ∧ HC Ja (min (a + 1) 16) (psh a P N) ∧ (∀ x, (x < 285 ∨ x = 286 ∨ x = 287 ∨ 400 ≤ x) → Ja x = I x) ∧ (∀ k, k ≠ 3 → k ≠ 4 → Ja 285 k = I 285 k) ∧ CSt Ja (gsa σ) N := by
  obtain ⟨h1, h3, ⟨p1, p2, p4, p6, p7⟩, h6⟩ := h
  have hsa := h1.1.2.1
  have w18 := h3.1.2.2.2.1.2
  have w16 := h3.1.2.1
  have g2 : gsa σ + 7 ≤ 282 := by unfold isSt at hsa; omega
  obtain ⟨Ja, e, j1, j2, j3⟩ := cnote_ok (σ := σ) (L := Lx) p2 hsa p1 h1.2.2.2.2 w18 w16
  exact ⟨Ja, e, j1, j2, j3, h1.2.2.2.2.eq fun x a b => j2 x (by omega)⟩
theorem CB.clo (h : CB σ I L T N a P K Q) : (∀ Lx, gI 5 1 (gsa σ) (hk σ I Lx) = some (nI (N 16))) ∧ N 16 ≤ 1 :=
  ⟨fun Lx => by rw [gI_st h.1.1.2.1, h.1.2.2.2.2.1.2.1], h.2.1.1.2.1⟩
/-- the state alone is another: what the class's rows then hold -/
theorem cact_cr (h : CB σ I L T N a P K Q) (hEX : EX T N') (jf : ∀ x, (x < 285 ∨ x = 286 ∨ x = 287 ∨ 400 ≤ x) → Ja x = I x) (i1 : CSt I1 (gsa σ) N') (if1 : ∀ x, (x < gsa σ ∨ gsa σ + 7 ≤ x) → I1 x = Ja x) (L1f : ∀ x, x ≠ 415 → L1 x = L x) : CR σ I1 L1 T N' := by
  obtain ⟨h1, h3, ⟨p1, p2, p4, p6, p7⟩, h6⟩ := h
  have hsa := h1.1.2.1
  have g1 : 268 ≤ gsa σ := by unfold isSt at hsa; omega
  have g2 : gsa σ + 7 ≤ 282 := by unfold isSt at hsa; omega
  refine h1.act (FrA.f0 (I := I) (L := L) fun x hx => ⟨by rw [if1 x (by omega), jf x (by omega)], L1f x (by omega)⟩) i1 hEX.1
/-- a FACT is made to be in some way -/
theorem cact_make (h : CB σ I L T N a P K Q) {f how so : Nat} (is : Bool) (hf : f < T 1) (hh : how ≤ 4) (hso : so = if (is && (decide (how = 1) || decide (how = 4))) = true then 1 else 0) (hEX : EX T (mkn N f how so)) (L1f : ∀ x, x ≠ 415 → L1 x = L x) :
    ∃ Ja I1, mX0_note 285 (gsa σ) (hk σ I L1) = some (hk σ Ja L1) ∧ mX5_become (gsa σ) (nI f) (nI how) (bI is) (hk σ Ja L1) = some (hk σ I1 L1) ∧ CB σ I1 L1 T (mkn N f how so) (min (a + 1) 16) (psh a P N) K Q ∧ FrA I L I1 L1 := by
  obtain ⟨h1, h3, ⟨p1, p2, p4, p6, p7⟩, h6⟩ := id h
  have w1 := h1.2.1.1.2.1
  have hsa := h1.1.2.1
  obtain ⟨Ja, ea, j1, j2, j3, j4⟩ := h.note L1
  obtain ⟨I1, e1, c1, f1⟩ := become_ok (σ := σ) (L := L1) is hsa j4 (show f < 8 by omega) hh
  rw [← hso] at c1
  obtain ⟨b1, b2⟩ := cact_done h hEX j1 j2 j3 c1 (fun x hx => f1 x (by omega)) L1f (psh_EX p6 p2.1 h3)
  exact ⟨Ja, I1, ea, e1, b1, b2⟩
theorem anw_le (N : Nat → Nat) : anw N ≤ 8 := cntB_le _ 8
/-- withdraw -/
theorem c_withdraw (h : CB σ I L T N a P K Q) (x : Int32) : AX σ I L T N a P K Q (mX11_withdraw 100 x (hk σ I L)) True (fun _ => True) := by
  obtain ⟨h1, h3, ⟨p1, p2, p4, p6, p7⟩, h6⟩ := id h
  have hW := h1.2.1
  have w1 := hW.1.2.1
  have hsa := h1.1.2.1
  obtain ⟨c1, c2⟩ := h.clo
  rcases ixn x (T 1) (by omega) with ⟨f, hf, rfl, hd⟩ | hd
  · have hN := h3.1.1 f (by omega)
    by_cases hc : N 16 = 0
    · by_cases ha : N f = 1
      · have hEX : EX T (mkn N f 0 0) := by
          obtain ⟨w, hw, hl⟩ := h3.1.2.2.2.2.2
          refine ⟨h3.1.make hW hf (by omega) (by omega) (fun q => by omega) ⟨w, hw, lft_off (by omega) (by omega) hl⟩, fun _ g hg => ?_⟩
          rw [mkn_lo (by omega) hg]
          split
          · omega
          · exact h3.2 hc g hg
        obtain ⟨Ja, I1, ea, e1, b1, b2⟩ := cact_make (L1 := L) h false hf (how := 0) (so := 0) (by omega) rfl hEX (fun _ _ => rfl)
        have r1 := b1.1
        refine ⟨nI (anw (mkn N f 0 0)), I1, L, ?_, b2, Or.inr ⟨nI_pos (by have := anw_le (mkn N f 0 0); omega), _, b1, trivial⟩⟩
        · unfold mX11_withdraw
          rw [if_pos s100, cisFact_ok h1, obind, bI_if0, hd, if_neg nTF, gSa, c1, obind, hc, if_pos (show nI 0 = 0 from rfl), gSa, howIs_ok h1 (by omega), obind, ha, if_pos (show nI 1 = 1 from rfl), show gR 11 8 100 (hk σ I L) = some 285 from rfl, obind, gSa, ea, obind, gSa, show (0 : Int32) = nI 0 from rfl, show mX5_become (gsa σ) (nI f) (nI 0) (nI 0) (hk σ Ja L) = some (hk σ I1 L) from e1, obind, gSa, canswered_ok r1.1.2.1 r1.2.2.2.2 (fun g hg => (hEX.1.1 g hg).1), obind]
      · refine AX.no' h (v := -3) (by decide) ?_ ?_
        · unfold mX11_withdraw
          rw [if_pos s100, cisFact_ok h1, obind, bI_if0, hd, if_neg nTF, gSa, c1, obind, hc, if_pos (show nI 0 = 0 from rfl), gSa, howIs_ok h1 (by omega), obind, c_1 (by omega), if_neg ha]
        · trivial
    · have hc1 : N 16 = 1 := by omega
      refine AX.no' h (v := -2) (by decide) ?_ ?_
      · unfold mX11_withdraw
        rw [if_pos s100, cisFact_ok h1, obind, bI_if0, hd, if_neg nTF, gSa, c1, obind, hc1, if_neg (show ¬ nI 1 = 0 by decide)]
      · trivial
  · refine AX.no' h (v := -1) (by decide) ?_ ?_
    · unfold mX11_withdraw
      rw [if_pos s100, cisFact_ok h1, obind, bI_if0, hd, if_pos rfl]
    · trivial
/-- find -/
theorem c_find (h : CB σ I L T N a P K Q) (x : Int32) (is : Bool) : AX σ I L T N a P K Q (mX11_find 100 x (bI is) (hk σ I L)) (∀ f, x = nI f → f < T 1 → N 16 = 1 → kn N f = false → sme T N f is = true → False)
    (fun N' => ∀ f, x = nI f → f < T 1 → N 16 = 1 ∧ kn N f = false ∧ sme T N f is = true ∧ N' = mkn N f 4 (if is = true then 1 else 0)) := by
  obtain ⟨h1, h3, ⟨p1, p2, p4, p6, p7⟩, h6⟩ := id h
  have hW := h1.2.1
  have w1 := hW.1.2.1
  have hsa := h1.1.2.1
  obtain ⟨c1, c2⟩ := h.clo
  rcases ixn x (T 1) (by omega) with ⟨f, hf, rfl, hd⟩ | hd
  · have f8 : f < 8 := by omega
    have N4 : ∀ g, g < 8 → N g ≤ 4 := fun g hg => (h3.1.1 g hg).1
    have kF := knF_lt N
    have kb : (knF N).testBit f = kn N f := by unfold knF; rw [bs_bit, decide_eq_true f8, Bool.true_and]
    by_cases hc : N 16 = 0
    · refine AX.no' h (v := -2) (by decide) ?_ ?_
      · unfold mX11_find
        rw [if_pos s100, cisFact_ok h1, obind, bI_if0, hd, if_neg nTF, gSa, c1, obind, hc, if_pos (show nI 0 = 0 from rfl)]
      · intro g _ _ q _ _; omega
    · have hc1 : N 16 = 1 := by omega
      cases hk' : kn N f
      · obtain ⟨r, el⟩ := leaves_ok (σ := σ) (L := L) h1 is f8
        cases hs : sme T N f is
        · refine AX.no h (v := -4) (by decide) (r := r) ?_ ?_
          · unfold mX11_find
            rw [if_pos s100, cisFact_ok h1, obind, bI_if0, hd, if_neg nTF, gSa, c1, obind, hc1, if_neg (show ¬ nI 1 = 0 by decide), gSa, known_ok hsa h1.2.2.2.2, obind, has_nI (by omega) (by omega), obind, bI_if0, kb, hk', if_pos rfl, el, b2s, bI_if0, hs, if_pos rfl]
          · intro g e hg _ _ q; have := (nI_eq (by omega) (by omega)).mp e; subst this; rw [hs] at q; cases q
        · obtain ⟨so, hso⟩ : ∃ so : Nat, so = (if (is && (decide (4 = 1) || decide (4 = 4))) = true then 1 else 0) := ⟨_, rfl⟩
          have so1 : so ≤ 1 := by rw [hso]; split <;> omega
          have sd : decide (so = 1) = is := by rw [hso]; cases is <;> rfl
          have sI' : nI so = bI is := by rw [hso]; cases is <;> rfl
          have hEX : EX T (mkn N f 4 so) := h3.make hW hf (Or.inr rfl) hk' so1 (fun q => absurd q hc) (by rw [sd]; exact hs)
          obtain ⟨Ja, I1, ea, e1, b1, b2⟩ := cact_make (L1 := rowUp L 415 r) h is hf (how := 4) (so := so) (by omega) hso hEX (up415 r)
          have pf := pc_fre (T := T) (N := mkn N f 4 so) hW (fun g hg => (hEX.1.1 g hg).2.2.2)
          have fl := fre_lt (N := mkn N f 4 so) hW
          have kl := knF_lt (mkn N f 4 so)
          have r1 := b1.1
          have pl := pc_le (fre T (mkn N f 4 so))
          refine ⟨nI (pc (fre T (mkn N f 4 so))), I1, rowUp L 415 r, ?_, b2, Or.inr ⟨nI_pos (by omega), _, b1, fun g e hg => ?_⟩⟩
          · unfold mX11_find
            rw [if_pos s100, cisFact_ok h1, obind, bI_if0, hd, if_neg nTF, gSa, c1, obind, hc1, if_neg (show ¬ nI 1 = 0 by decide), gSa, known_ok hsa h1.2.2.2.2, obind, has_nI (by omega) (by omega), obind, bI_if0, kb, hk', if_pos rfl, el, b2s, bI_if0, hs, if_neg nTF, gHist, obind, gSa, ea, obind, gSa, show (4 : Int32) = nI 4 from rfl, e1, obind, unknown_ok r1, obind, cbits_ok _ fl, obind]
          · have := (nI_eq (by omega) (by omega)).mp e
            subst this
            exact ⟨hc1, hk', hs, by rw [hso]; cases is <;> rfl⟩
      · refine AX.no' h (v := -3) (by decide) ?_ ?_
        · unfold mX11_find
          rw [if_pos s100, cisFact_ok h1, obind, bI_if0, hd, if_neg nTF, gSa, c1, obind, hc1, if_neg (show ¬ nI 1 = 0 by decide), gSa, known_ok hsa h1.2.2.2.2, obind, has_nI (by omega) (by omega), obind, bI_if0, kb, hk', if_neg nTF]
        · intro g e hg _ q _; have := (nI_eq (by omega) (by omega)).mp e; subst this; rw [hk'] at q; cases q
  · refine AX.no' h (v := -1) (by decide) ?_ ?_
    · unfold mX11_find
      rw [if_pos s100, cisFact_ok h1, obind, bI_if0, hd, if_pos rfl]
    · intro g e hg _ _ _; subst e; rw [dIn hg (by omega)] at hd; cases hd
theorem c_answer_fin (h : CB σ I L T N a P K Q) {f j wl so : Nat} (hf : f < T 1) (hj : j < 4) (hwl : wl = if j < 2 then 1 else j) (hso : so = if j = 1 then 1 else 0) (hEX : EX T (mkn N f wl so)) (L1f : ∀ x, x ≠ 415 → L1 x = L x) :
    ∃ I1, mX11_answer_b94 100 (nI f) (nI j) (nI wl) (hk σ I L1) = some (nI (anw (mkn N f wl so)), hk σ I1 L1) ∧ CB σ I1 L1 T (mkn N f wl so) (min (a + 1) 16) (psh a P N) K Q ∧ FrA I L I1 L1 := by
  have w1 := h.1.2.1.1.2.1
  have so' : so = if (decide (j = 1) && (decide (wl = 1) || decide (wl = 4))) = true then 1 else 0 := by
    rw [hso, hwl]
    rcases (show j = 0 ∨ j = 1 ∨ j = 2 ∨ j = 3 by omega) with rfl | rfl | rfl | rfl <;> rfl
  have wl4 : wl ≤ 4 := by rw [hwl]; split <;> omega
  obtain ⟨Ja, I1, ea, e1, b1, b2⟩ := cact_make (L1 := L1) h (decide (j = 1)) hf wl4 so' hEX L1f
  have r1 := b1.1
  refine ⟨I1, ?_, b1, b2⟩
  · have fin : ∀ t, t = bI (decide (j = 1)) → mX11_answer_b121 100 (gsa σ) (nI f) (nI wl) t (hk σ Ja L1) = some (nI (anw (mkn N f wl so)), hk σ I1 L1) := fun t ht => by
      unfold mX11_answer_b121
      rw [ht, e1, obind, gSa, canswered_ok r1.1.2.1 r1.2.2.2.2 (fun g hg => (hEX.1.1 g hg).1), obind]
    unfold mX11_answer_b94
    rw [gHist, obind, gSa, ea, obind, gSa, c_1 (by omega)]
    by_cases e : j = 1
    · rw [if_pos e]; exact fin _ (by rw [decide_eq_true e]; rfl)
    · rw [if_neg e]; exact fin _ (by rw [decide_eq_false e]; rfl)
/-- answer -/
theorem c_answer (h : CB σ I L T N a P K Q) (x y : Int32) : AX σ I L T N a P K Q (mX11_answer 100 x y (hk σ I L)) (∀ f j, x = nI f → y = nI j → f < T 1 → j < 2 → N 16 = 0 → kn N f = false → sme T N f (decide (j = 1)) = true → False)
    (fun N' => ∀ f j, x = nI f → y = nI j → f < T 1 → j < 2 → N 16 = 0 ∧ kn N f = false ∧ sme T N f (decide (j = 1)) = true ∧ N' = mkn N f 1 (if j = 1 then 1 else 0)) := by
  obtain ⟨h1, h3, ⟨p1, p2, p4, p6, p7⟩, h6⟩ := id h
  have hW := h1.2.1
  have w1 := hW.1.2.1
  have hsa := h1.1.2.1
  obtain ⟨c1, c2⟩ := h.clo
  rcases ixn x (T 1) (by omega) with ⟨f, hf, rfl, hd⟩ | hd
  · have f8 : f < 8 := by omega
    have N4 : ∀ g, g < 8 → N g ≤ 4 := fun g hg => (h3.1.1 g hg).1
    have Nf := N4 f f8
    rcases ixn y 4 (by omega) with ⟨j, hj, rfl, hdy⟩ | hdy
    · have j3 : ¬ (3 : Int32) < nI j := by rcases (show j = 0 ∨ j = 1 ∨ j = 2 ∨ j = 3 by omega) with rfl | rfl | rfl | rfl <;> decide
      by_cases hc : N 16 = 0
      · have n4 := h3.2 hc f f8
        have kne : kn N f = decide (N f = 1) := by unfold kn; rw [decide_eq_false n4, Bool.or_false]
        have clsA : mX11_answer 100 (nI f) (nI j) (hk σ I L) = if j < 2 then mX11_answer_b42 100 (nI f) (nI j) (nI 1) (hk σ I L) else mX11_answer_b42 100 (nI f) (nI j) (nI j) (hk σ I L) := by
          unfold mX11_answer
          rw [if_pos s100, cisFact_ok h1, obind, bI_if0, hd, if_neg nTF, if_neg (nI_pos (show j < 2 ^ 31 by omega)), if_neg j3, gSa, c1, obind, hc, if_pos (show nI 0 = 0 from rfl), show (2 : Int32) = nI 2 from rfl, c_ltd (by omega) (by omega)]
          rfl
        have clsB : ∀ wl, wl < 4 → mX11_answer_b42 100 (nI f) (nI j) (nI wl) (hk σ I L) = if N f = 1 then some (-3, hk σ I L) else if N f = wl then some (-3, hk σ I L) else if wl = 1 then (if j = 1 then mX11_answer_b85 100 (nI f) (nI j) (nI wl) 100 (nI f) 1 (hk σ I L) else mX11_answer_b85 100 (nI f) (nI j) (nI wl) 100 (nI f) 0 (hk σ I L)) else mX11_answer_b94 100 (nI f) (nI j) (nI wl) (hk σ I L) := fun wl hwl => by
          unfold mX11_answer_b42
          rw [gSa, howIs_ok h1 f8, obind, c_1 (by omega), c_eqd (by omega) (by omega), c_1 (by omega), c_1 (by omega)]
        by_cases h1' : N f = 1
        · refine AX.no' h (v := -3) (by decide) ?_ ?_
          · rw [clsA]
            split
            · rw [clsB 1 (by omega), if_pos h1']
            · rw [clsB j (by omega), if_pos h1']
          · intro g i e ei hg hi _ q _; have := (nI_eq (by omega) (by omega)).mp e; subst this; have := (nI_eq (by omega) (by omega)).mp ei; subst this; rw [kne, h1'] at q; cases q
        · have kf : kn N f = false := by rw [kne]; exact decide_eq_false h1'
          by_cases hj2 : j < 2
          · have jb : nI j = bI (decide (j = 1)) := by rcases (show j = 0 ∨ j = 1 by omega) with rfl | rfl <;> rfl
            obtain ⟨r, el⟩ := leaves_ok (σ := σ) (L := L) h1 (decide (j = 1)) f8
            have cls : mX11_answer 100 (nI f) (nI j) (hk σ I L) = mX11_answer_b85 100 (nI f) (nI j) (nI 1) 100 (nI f) (bI (decide (j = 1))) (hk σ I L) := by
              rw [clsA, if_pos hj2, clsB 1 (by omega), if_neg h1', if_neg h1', if_pos rfl]
              by_cases e : j = 1
              · rw [if_pos e, decide_eq_true e]; rfl
              · rw [if_neg e, decide_eq_false e]; rfl
            cases hs : sme T N f (decide (j = 1))
            · refine AX.no h (v := -4) (by decide) (r := r) ?_ ?_
              · rw [cls]
                unfold mX11_answer_b85
                rw [el, b2s, bI_if0, hs, if_pos rfl]
              · intro g i e ei hg hi _ _ q; have := (nI_eq (by omega) (by omega)).mp e; subst this; have := (nI_eq (by omega) (by omega)).mp ei; subst this; rw [hs] at q; cases q
            · obtain ⟨so, hso⟩ : ∃ so : Nat, so = if j = 1 then 1 else 0 := ⟨_, rfl⟩
              have sd : decide (so = 1) = decide (j = 1) := by
                rw [hso]
                by_cases e : j = 1
                · rw [if_pos e, decide_eq_true e]; rfl
                · rw [if_neg e, decide_eq_false e]; rfl
              have hEX : EX T (mkn N f 1 so) := h3.make hW hf (Or.inl rfl) kf (by rw [hso]; split <;> omega) (fun _ => by omega) (by rw [sd]; exact hs)
              obtain ⟨I1, e1, b1, b2⟩ := c_answer_fin (L1 := rowUp L 415 r) h hf hj (by rw [if_pos hj2]) hso hEX (up415 r)
              refine ⟨nI (anw (mkn N f 1 so)), I1, rowUp L 415 r, ?_, b2, Or.inr ⟨nI_pos (by have := anw_le (mkn N f 1 so); omega), _, b1, fun g i e ei hg hi => ?_⟩⟩
              · rw [cls]
                unfold mX11_answer_b85
                rw [el, b2s, bI_if0, hs, if_neg nTF]
                exact e1
              · have := (nI_eq (by omega) (by omega)).mp e; subst this; have := (nI_eq (by omega) (by omega)).mp ei; subst this
                exact ⟨hc, kf, hs, by rw [hso]⟩
          · by_cases hjf : N f = j
            · refine AX.no' h (v := -3) (by decide) ?_ ?_
              · rw [clsA, if_neg hj2, clsB j (by omega), if_neg h1', if_pos hjf]
              · intro g i e ei hg hi _ _ q; have := (nI_eq (by omega) (by omega)).mp ei; omega
            · have hEX : EX T (mkn N f j 0) := h3.off hW hf (by omega)
              obtain ⟨I1, e1, b1, b2⟩ := c_answer_fin (L1 := L) h hf hj (wl := j) (by rw [if_neg hj2]) (by rw [if_neg (show ¬ j = 1 by omega)]) hEX (fun _ _ => rfl)
              refine ⟨nI (anw (mkn N f j 0)), I1, L, ?_, b2, Or.inr ⟨nI_pos (by have := anw_le (mkn N f j 0); omega), _, b1, fun g i e ei hg hi => ?_⟩⟩
              · rw [clsA, if_neg hj2, clsB j (by omega), if_neg h1', if_neg hjf, if_neg (show ¬ j = 1 by omega)]
                exact e1
              · have := (nI_eq (by omega) (by omega)).mp ei; omega
      · have hc1 : N 16 = 1 := by omega
        refine AX.no' h (v := -2) (by decide) ?_ ?_
        · unfold mX11_answer
          rw [if_pos s100, cisFact_ok h1, obind, bI_if0, hd, if_neg nTF, if_neg (nI_pos (show j < 2 ^ 31 by omega)), if_neg j3, gSa, c1, obind, hc1, if_neg (show ¬ nI 1 = 0 by decide)]
        · intro g i e ei hg hi q _ _; omega
    · refine AX.no' h (v := -1) (by decide) ?_ ?_
      · unfold mX11_answer
        rw [if_pos s100, cisFact_ok h1, obind, bI_if0, hd, if_neg nTF]
        rcases ix_cases y with hy | ⟨j, hj, rfl⟩
        · rw [if_pos hy]
        · rw [nI_toInt hj] at hdy
          have := of_decide_eq_false hdy
          rw [if_neg (nI_pos hj), if_pos (show (3 : Int32) < nI j from nI_lt (show 3 < j by omega) hj)]
      · intro g i e ei hg hi _ _ _; subst ei; rw [show (decide (0 ≤ (nI i).toInt ∧ (nI i).toInt < ((4 : Nat) : Int))) = true from dIn (by omega) (by omega)] at hdy; cases hdy
  · refine AX.no' h (v := -1) (by decide) ?_ ?_
    · unfold mX11_answer
      rw [if_pos s100, cisFact_ok h1, obind, bI_if0, hd, if_pos rfl]
    · intro g i e ei hg hi _ _ _; subst e; rw [dIn hg (by omega)] at hd; cases hd
theorem crng (x : Int32) {lo hi : Nat} (h1 : lo ≤ hi) (h2 : hi < 2147483648) : (∃ n, x = nI n ∧ lo ≤ n ∧ n ≤ hi ∧ ¬ x < nI lo ∧ ¬ nI hi < x) ∨ (x < nI lo ∨ (¬ x < nI lo ∧ nI hi < x)) := by
  by_cases a1 : x < nI lo
  · exact Or.inr (Or.inl a1)
  · by_cases a2 : nI hi < x
    · exact Or.inr (Or.inr ⟨a1, a2⟩)
    · left
      rcases ix_cases x with hx | ⟨n, hn, rfl⟩
      · exfalso
        apply a1
        have h0 : (0 : Int32).toInt = 0 := rfl
        have := Int32.lt_iff_toInt_lt.mp hx
        exact Int32.lt_iff_toInt_lt.mpr (by rw [nI_toInt (by omega)]; omega)
      · refine ⟨n, rfl, ?_, ?_, a1, a2⟩
        · cases Nat.lt_or_ge n lo with
          | inl q => exact absurd (nI_lt q (by omega)) a1
          | inr q => exact q
        · cases Nat.lt_or_ge hi n with
          | inl q => exact absurd (nI_lt q hn) a2
          | inr q => exact q
/-- days -/
theorem c_days (h : CB σ I L T N a P K Q) (x : Int32) : AX σ I L T N a P K Q (mX11_days 100 x (hk σ I L)) True (fun _ => True) := by
  obtain ⟨h1, h3, ⟨p1, p2, p4, p6, p7⟩, h6⟩ := id h
  have hsa := h1.1.2.1
  have n17 := h3.1.2.2.1
  rcases crng x (lo := 1) (hi := 999) (by omega) (by omega) with ⟨n, rfl, n1, n9, hc, hc2⟩ | hor
  · have hc : ¬ nI n < (1 : Int32) := hc
    have hc2 : ¬ (999 : Int32) < nI n := hc2
    by_cases hl : 9999 < N 17 + n
    · refine AX.no' h (v := -2) (by decide) ?_ ?_
      · unfold mX11_days
        rw [if_pos s100, if_neg hc, if_neg hc2, gSa, gI_st hsa, obind, h1.2.2.2.2.1.1, nI_add, if_pos (show (9999 : Int32) < nI (N 17 + n) from nI_lt (a := 9999) hl (by omega))]
      · trivial
    · have hle : N 17 + n ≤ 9999 := by omega
      have hng : ¬ (9999 : Int32) < nI (N 17 + n) := nI_nlt (a := 9999) (b := N 17 + n) hle (by omega)
      obtain ⟨N', hN'⟩ : ∃ N', N' = updA N 17 (N 17 + n) := ⟨_, rfl⟩
      have nh : ∀ i, i ≠ 17 → N' i = N i := fun i hi => by rw [hN', updA_ne _ _ hi]
      have n17' : N' 17 = N 17 + n := by rw [hN', updA_same]
      have lh : lft T N' = lft T N := lft_hi fun i hi => nh i (by omega)
      have ih : ∀ k j, it N' k j = it N k j := fun k j => nh _ (by omega)
      have hEX : EX T N' := by
        obtain ⟨⟨g1, g2, g3, g4, g5, g6⟩, g7⟩ := h3
        refine ⟨⟨fun f hf => ?_, by rw [nh 16 (by omega)]; exact g2, by omega, by rw [nh 18 (by omega)]; exact g4, fun k hk' => ?_, by rw [lh]; exact g6⟩, fun hc f hf => ?_⟩
        · unfold kn; rw [nh f (by omega), nh (8 + f) (by omega)]; exact g1 f hf
        · rw [nh 18 (by omega)] at hk'
          obtain ⟨b1, b2, b3⟩ := g5 k hk'
          simp only [ih]
          exact ⟨b1, by omega, b3⟩
        · rw [nh 16 (by omega)] at hc
          rw [nh f (by omega)]; exact g7 hc f hf
      obtain ⟨Ja, ea, j1, j2, j3, j4⟩ := h.note L
      have js : Ja (gsa σ) 0 = nI (N 17) := j4.1.1
      have c1 : CSt (rowUp Ja (gsa σ) (updA (Ja (gsa σ)) 0 (nI (N 17 + n)))) (gsa σ) N' := by
        refine j4.hi (fun i hi => nh i (by omega)) (by rw [rowUp_same, updA_same, n17']) (by rw [rowUp_same, updA_ne _ _ (by omega), nh 16 (by omega)]; exact j4.1.2.1) (by rw [rowUp_same, updA_ne _ _ (by omega), nh 18 (by omega)]; exact j4.1.2.2.1) (by simp only [ih]; rw [rowUp_same, updA_ne _ _ (by omega), nh 18 (by omega)]; exact j4.1.2.2.2.1) (fun k hk' => by rw [rowUp_same, updA_ne _ _ (by omega)]) (fun k hk' => ?_)
        rw [nh 18 (by omega)] at hk'
        simp only [ih]
        rw [rowUp_ne _ _ (by omega), rowUp_ne _ _ (by omega), rowUp_ne _ _ (by omega), rowUp_ne _ _ (by omega), rowUp_ne _ _ (by omega), rowUp_ne _ _ (by omega)]
        exact j4.2 k hk'
      have fI1 : ∀ x, (x < gsa σ ∨ gsa σ + 7 ≤ x) → rowUp Ja (gsa σ) (updA (Ja (gsa σ)) 0 (nI (N 17 + n))) x = Ja x := fun x hx => rowUp_ne _ _ (by omega)
      obtain ⟨b1, b2⟩ := cact_done h hEX j1 j2 j3 c1 fI1 (fun _ _ => rfl) (psh_EX p6 p2.1 h3)
      refine ⟨nI (N 17 + n), rowUp Ja (gsa σ) (updA (Ja (gsa σ)) 0 (nI (N 17 + n))), L, ?_, b2, Or.inr ⟨nI_pos (by omega), _, b1, trivial⟩⟩
      · unfold mX11_days
        rw [if_pos s100, if_neg hc, if_neg hc2, gSa, gI_st hsa, obind, h1.2.2.2.2.1.1, nI_add, if_neg hng, gHist, obind, gSa, ea, obind, gSa, gI_st hsa, obind, js, nI_add, sI_ok (sSt hsa), obind, setI_hk, hpI_hk', gSa, gI_st hsa, obind, rowUp_same, updA_same]
  · refine AX.no' h (v := -1) (by decide) ?_ ?_
    · unfold mX11_days
      rw [if_pos s100]
      rcases hor with q | ⟨q1, q2⟩
      · rw [if_pos (show x < 1 from q)]
      · rw [if_neg (show ¬ x < 1 from q1), if_pos (show (999 : Int32) < x from q2)]
    · trivial
/-- strike -/
theorem c_strike (h : CB σ I L T N a P K Q) (x : Int32) : AX σ I L T N a P K Q (mX11_strike 100 x (hk σ I L)) True (fun _ => True) := by
  obtain ⟨h1, h3, ⟨p1, p2, p4, p6, p7⟩, h6⟩ := id h
  have hW := h1.2.1
  have hsa := h1.1.2.1
  have h18 := h3.1.2.2.2.1.2
  have sl := bs_lt (fun k => decide (it N k 6 = 1)) (N 18)
  have sp := Nat.pow_le_pow_right (n := 2) (by omega) h18
  rcases ixn x (N 18) (by omega) with ⟨k, hk', rfl, hd⟩ | hd
  · have str : mX11_has (nI (bs (fun k => decide (it N k 6 = 1)) (N 18))) (nI k) = some (bI (decide (it N k 6 = 1))) := by
      rw [has_nI (by omega) (by omega), bs_bit, decide_eq_true hk', Bool.true_and]
    by_cases hs : it N k 6 = 1
    · refine AX.no' h (v := -2) (by decide) ?_ ?_
      · unfold mX11_strike
        rw [if_pos s100, cisCount_ok h1, obind, bI_if0, hd, if_neg nTF, gSa, gI_st hsa, obind, h1.2.2.2.2.1.2.2.2.1, str, obind, bI_if0, decide_eq_true hs, if_neg nTF]
      · trivial
    · have n6 := (h3.1.2.2.2.2.1 k hk').2.2.2.2.2.2.1
      obtain ⟨N', hN'⟩ : ∃ N', N' = updA N (19 + 8 * k + 6) 1 := ⟨_, rfl⟩
      have nh : ∀ i, i ≠ 19 + 8 * k + 6 → N' i = N i := fun i hi => by rw [hN', updA_ne _ _ hi]
      have ih : ∀ k' j, j < 8 → j ≠ 6 → it N' k' j = it N k' j := fun k' j hj h6 => by rw [hN', it_upd (by omega) hj, if_neg (by omega)]
      have i6 : ∀ k', it N' k' 6 = if k' = k then 1 else it N k' 6 := fun k' => by
        rw [hN', it_upd (by omega) (by omega)]
        by_cases e : k' = k
        · rw [if_pos ⟨e, rfl⟩, if_pos e]
        · rw [if_neg (fun q => e q.1), if_neg e]
      have i0 : ∀ k', it N' k' 0 = it N k' 0 := fun k' => ih k' 0 (by omega) (by omega)
      have i1 : ∀ k', it N' k' 1 = it N k' 1 := fun k' => ih k' 1 (by omega) (by omega)
      have i2 : ∀ k', it N' k' 2 = it N k' 2 := fun k' => ih k' 2 (by omega) (by omega)
      have i3 : ∀ k', it N' k' 3 = it N k' 3 := fun k' => ih k' 3 (by omega) (by omega)
      have i4 : ∀ k', it N' k' 4 = it N k' 4 := fun k' => ih k' 4 (by omega) (by omega)
      have i5 : ∀ k', it N' k' 5 = it N k' 5 := fun k' => ih k' 5 (by omega) (by omega)
      have i7 : ∀ k', it N' k' 7 = it N k' 7 := fun k' => ih k' 7 (by omega) (by omega)
      have lh : lft T N' = lft T N := lft_hi fun i hi => nh i (by omega)
      have hEX : EX T N' := by
        obtain ⟨⟨g1, g2, g3, g4, g5, g6⟩, g7⟩ := h3
        refine ⟨⟨fun f hf => ?_, by rw [nh 16 (by omega)]; exact g2, by rw [nh 17 (by omega)]; exact g3, by rw [nh 18 (by omega)]; exact g4, fun k' hk'' => ?_, by rw [lh]; exact g6⟩, fun hc f hf => ?_⟩
        · unfold kn; rw [nh f (by omega), nh (8 + f) (by omega)]; exact g1 f hf
        · rw [nh 18 (by omega)] at hk''
          obtain ⟨b1, b2, b3, b4, b5, b6, b7, b8⟩ := g5 k' hk''
          simp only [i0, i1, i2, i3, i4, i5, i7, nh 17 (by omega)]
          exact ⟨b1, b2, b3, b4, b5, b6, by rw [i6]; split <;> omega, b8⟩
        · rw [nh 16 (by omega)] at hc
          rw [nh f (by omega)]; exact g7 hc f hf
      obtain ⟨Ja, ea, j1, j2, j3, j4⟩ := h.note L
      have js : Ja (gsa σ) 3 = nI (bs (fun k => decide (it N k 6 = 1)) (N 18)) := j4.1.2.2.2.1
      have nb : bs (fun k => decide (it N k 6 = 1)) (N 18) ||| 2 ^ k = bs (fun k => decide (it N' k 6 = 1)) (N 18) := by
        rw [bs_onN _ hk']
        exact bs_congr fun k' _ => by
          rw [updA_at, i6]
          by_cases e : k' = k
          · rw [if_pos e, if_pos e]; rfl
          · rw [if_neg e, if_neg e]
      have nl := bs_lt (fun k => decide (it N' k 6 = 1)) (N 18)
      have pcn : pc (bs (fun k => decide (it N' k 6 = 1)) (N 18)) = cntB (fun k => decide (it N' k 6 = 1)) (N 18) := pc_bs _ h18
      have cc' : cntB (fun k => decide (it N' k 6 = 1)) (N 18) + cntB (fun k => !decide (it N' k 6 = 1)) (N 18) = N 18 := cnt_compl _ _ _ fun _ _ => rfl
      have c1 : CSt (rowUp Ja (gsa σ) (updA (Ja (gsa σ)) 3 (nI (bs (fun k => decide (it N' k 6 = 1)) (N 18))))) (gsa σ) N' := by
        refine j4.hi (fun i hi => nh i (by omega)) (by rw [rowUp_same, updA_ne _ _ (by omega), nh 17 (by omega)]; exact j4.1.1) (by rw [rowUp_same, updA_ne _ _ (by omega), nh 16 (by omega)]; exact j4.1.2.1) (by rw [rowUp_same, updA_ne _ _ (by omega), nh 18 (by omega)]; exact j4.1.2.2.1) (by rw [rowUp_same, updA_same, nh 18 (by omega)]) (fun k hk' => by rw [rowUp_same, updA_ne _ _ (by omega)]) (fun k' hk'' => ?_)
        rw [nh 18 (by omega)] at hk''
        rw [i0, i1, i2, i3, i4, i5]
        rw [rowUp_ne _ _ (by omega), rowUp_ne _ _ (by omega), rowUp_ne _ _ (by omega), rowUp_ne _ _ (by omega), rowUp_ne _ _ (by omega), rowUp_ne _ _ (by omega)]
        exact j4.2 k' hk''
      have fI1 : ∀ x, (x < gsa σ ∨ gsa σ + 7 ≤ x) → rowUp Ja (gsa σ) (updA (Ja (gsa σ)) 3 (nI (bs (fun k => decide (it N' k 6 = 1)) (N 18)))) x = Ja x := fun x hx => rowUp_ne _ _ (by omega)
      obtain ⟨b1, b2⟩ := cact_done h hEX j1 j2 j3 c1 fI1 (fun _ _ => rfl) (psh_EX p6 p2.1 h3)
      have cl := cntB_le (fun k => !decide (it N' k 6 = 1)) (N 18)
      refine ⟨nI (cntB (fun k => !decide (it N' k 6 = 1)) (N 18)), rowUp Ja (gsa σ) (updA (Ja (gsa σ)) 3 (nI (bs (fun k => decide (it N' k 6 = 1)) (N 18)))), L, ?_, b2, Or.inr ⟨nI_pos (by omega), _, b1, trivial⟩⟩
      · unfold mX11_strike
        rw [if_pos s100, cisCount_ok h1, obind, bI_if0, hd, if_neg nTF, gSa, gI_st hsa, obind, h1.2.2.2.2.1.2.2.2.1, str, obind, bI_if0, decide_eq_false hs, if_pos rfl, gHist, obind, gSa, ea, obind, gSa, gI_st hsa, obind, js, shl1 (by omega), nx_or, nb, sI_ok (sSt hsa), obind, setI_hk, hpI_hk', gSa, gI_st hsa, obind, gSa, gI_st hsa, obind, rowUp_same, updA_same, updA_ne _ _ (by omega), j4.1.2.2.1, cbits_ok _ (by omega), obind, pcn, nI_sub (by omega), show N 18 - cntB (fun k => decide (it N' k 6 = 1)) (N 18) = cntB (fun k => !decide (it N' k 6 = 1)) (N 18) by omega]
  · refine AX.no' h (v := -1) (by decide) ?_ ?_
    · unfold mX11_strike
      rw [if_pos s100, cisCount_ok h1, obind, bI_if0, hd, if_pos rfl]
    · trivial
/-- add -/
theorem c_add (h : CB σ I L T N a P K Q) (x y z : Int32) : AX σ I L T N a P K Q (mX11_add 100 x y z (hk σ I L)) True (fun _ => True) := by
  obtain ⟨h1, h3, ⟨p1, p2, p4, p6, p7⟩, h6⟩ := id h
  have hsa := h1.1.2.1
  have h18 := h3.1.2.2.2.1.2
  have n17 := h3.1.2.2.1
  rcases ixn x (N 18) (by omega) with ⟨li, hl, rfl, hd⟩ | hd
  · rcases crng y (lo := 0) (hi := 999) (by omega) (by omega) with ⟨w, rfl, _, w9, hw1, hw2⟩ | hor
    · have hw1 : ¬ nI w < (0 : Int32) := hw1
      have hw2 : ¬ (999 : Int32) < nI w := hw2
      rcases crng z (lo := 0) (hi := 999) (by omega) (by omega) with ⟨r, rfl, _, r9, hr1, hr2⟩ | hor
      · have hr1 : ¬ nI r < (0 : Int32) := hr1
        have hr2 : ¬ (999 : Int32) < nI r := hr2
        by_cases h8 : N 18 = 8
        · refine AX.no' h (v := -2) (by decide) ?_ ?_
          · unfold mX11_add
            rw [if_pos s100, cisCount_ok h1, obind, bI_if0, hd, if_neg nTF, if_neg hw1, if_neg hw2, if_neg hr1, if_neg hr2, gSa, gI_st hsa, obind, h1.2.2.2.2.1.2.2.1, h8, if_neg (by decide)]
          · trivial
        · have h8' : N 18 < 8 := by omega
          obtain ⟨N', hN'⟩ : ∃ N', N' = adN N li w r := ⟨_, rfl⟩
          have hEX : EX T N' := by rw [hN']; exact h3.add h8' hl w9 r9
          have nlo : ∀ i, i < 18 → N' i = N i := fun i hi => by rw [hN']; exact adN_lo hi
          have n18 : N' 18 = N 18 + 1 := by rw [hN']; exact adN_18
          have itn : ∀ k j, j < 8 → it N' k j = if k = N 18 then fld (it N li 0) (N 17) w r li j else it N k j := fun k j hj => by rw [hN']; exact adN_it hj
          obtain ⟨Ja, ea, j1, j2, j3, j4⟩ := h.note L
          obtain ⟨I1, e1, q0, q1, q2, q3, q4, q5, q6, qo⟩ := file_ok (σ := σ) (L := L) (nI (it N li 0)) (nI w) (nI r) hsa h8' j4.1.2.2.1 j4.1.1
          have c1 : CSt I1 (gsa σ) N' := by
            refine j4.hi (fun i hi => nlo i (by omega)) (by rw [q0, updA_ne _ _ (by omega), nlo 17 (by omega)]; exact j4.1.1) (by rw [q0, updA_ne _ _ (by omega), nlo 16 (by omega)]; exact j4.1.2.1) (by rw [q0, updA_same, n18]) ?_ (fun k hk' => by rw [q0, updA_ne _ _ (by omega)]) (fun k hk' => ?_)
            · rw [q0, updA_ne _ _ (by omega), j4.1.2.2.2.1, n18, bsS, itn _ 6 (by omega), if_pos rfl, decide_eq_false (show ¬ fld (it N li 0) (N 17) w r li 6 = 1 from (show ¬ (0 : Nat) = 1 by decide)), if_neg (by decide), Nat.or_zero]
              exact congrArg nI (bs_congr fun k hk' => by rw [itn k 6 (by omega), if_neg (by omega)])
            · rw [n18] at hk'
              rw [itn k 0 (by omega), itn k 1 (by omega), itn k 2 (by omega), itn k 3 (by omega), itn k 4 (by omega), itn k 5 (by omega), q1, q2, q3, q4, q5, q6, updA_at, updA_at, updA_at, updA_at, updA_at, updA_at]
              by_cases e : k = N 18
              · subst e
                rw [if_pos rfl, if_pos rfl, if_pos rfl, if_pos rfl, if_pos rfl, if_pos rfl, if_pos rfl, if_pos rfl, if_pos rfl, if_pos rfl, if_pos rfl, if_pos rfl]
                exact ⟨rfl, rfl, rfl, rfl, rfl, rfl⟩
              · rw [if_neg e, if_neg e, if_neg e, if_neg e, if_neg e, if_neg e, if_neg e, if_neg e, if_neg e, if_neg e, if_neg e, if_neg e]
                exact j4.2 k (by omega)
          have fI1 : ∀ x, (x < gsa σ ∨ gsa σ + 7 ≤ x) → I1 x = Ja x := qo
          obtain ⟨b1, b2⟩ := cact_done h hEX j1 j2 j3 c1 fI1 (fun _ _ => rfl) (psh_EX p6 p2.1 h3)
          refine ⟨nI (N 18), I1, L, ?_, b2, Or.inr ⟨nI_pos (by omega), _, b1, trivial⟩⟩
          · have ck : mX11_kind 100 (nI li) (hk σ Ja L) = some (nI (it N li 0)) := by
              obtain ⟨d0, _⟩ := j4.2 li hl
              unfold mX11_kind
              rw [if_pos s100, gSa, gR_st hsa, obind, RF_st_9 σ hsa, at_r (SH_st1 hsa) (by omega) (by omega), obind, d0]
            unfold mX11_add
            rw [if_pos s100, cisCount_ok h1, obind, bI_if0, hd, if_neg nTF, if_neg hw1, if_neg hw2, if_neg hr1, if_neg hr2, gSa, gI_st hsa, obind, h1.2.2.2.2.1.2.2.1, c_lt8 h8', gHist, obind, gSa, ea, obind, gSa, ck, obind, e1, b2s]
      · refine AX.no' h (v := -1) (by decide) ?_ ?_
        · unfold mX11_add
          rw [if_pos s100, cisCount_ok h1, obind, bI_if0, hd, if_neg nTF, if_neg hw1, if_neg hw2]
          rcases hor with q | ⟨q1, q2⟩
          · rw [if_pos (show z < 0 from q)]
          · rw [if_neg (show ¬ z < 0 from q1), if_pos (show (999 : Int32) < z from q2)]
        · trivial
    · refine AX.no' h (v := -1) (by decide) ?_ ?_
      · unfold mX11_add
        rw [if_pos s100, cisCount_ok h1, obind, bI_if0, hd, if_neg nTF]
        rcases hor with q | ⟨q1, q2⟩
        · rw [if_pos (show y < 0 from q)]
        · rw [if_neg (show ¬ y < 0 from q1), if_pos (show (999 : Int32) < y from q2)]
      · trivial
  · refine AX.no' h (v := -1) (by decide) ?_ ?_
    · unfold mX11_add
      rw [if_pos s100, cisCount_ok h1, obind, bI_if0, hd, if_pos rfl]
    · trivial
/-- what a saying is, through -/
theorem c_say_fin (h : CB σ I L T N a P K Q) {k f how : Nat} (hk' : k < N 18) (hf : f < T 1) (hh : how < 3) :
    ∃ I1, mX11_say_b160 100 (nI k) (nI f) (nI how) (hk σ I L) = some (nI (pc (tlS (it N k 4) f how)), hk σ I1 L) ∧ CB σ I1 L T (updA (updA N (19 + 8 * k + 4) (tlS (it N k 4) f how)) (19 + 8 * k + 5) (tlO (it N k 5) f how)) (min (a + 1) 16) (psh a P N) K Q ∧ FrA I L I1 L := by
  obtain ⟨h1, h3, ⟨p1, p2, p4, p6, p7⟩, h6⟩ := id h
  have hW := h1.2.1
  have w1 := hW.1.2.1
  have hsa := h1.1.2.1
  have h18 := h3.1.2.2.2.1.2
  have f8 : f < 8 := by omega
  have p2f := pow8 f8
  obtain ⟨i4', i5', i54⟩ := WN.say hW h3.1 hk'
  have hEX := h3.tell hW hk' hf hh
  obtain ⟨N', hN'⟩ : ∃ N', N' = updA (updA N (19 + 8 * k + 4) (tlS (it N k 4) f how)) (19 + 8 * k + 5) (tlO (it N k 5) f how) := ⟨_, rfl⟩
  rw [← hN'] at hEX
  have nh : ∀ i, i ≠ 19 + 8 * k + 4 → i ≠ 19 + 8 * k + 5 → N' i = N i := fun i h4 h5 => by rw [hN', updA_ne _ _ h5, updA_ne _ _ h4]
  have ih : ∀ k' j, j < 8 → ¬ (k' = k ∧ j = 4) → ¬ (k' = k ∧ j = 5) → it N' k' j = it N k' j := fun k' j hj h4 h5 => by rw [hN', it_upd (by omega) hj, if_neg h5, it_upd (by omega) hj, if_neg h4]
  have e4 : it N' k 4 = tlS (it N k 4) f how := by rw [hN', it_upd (by omega) (by omega), if_neg (by omega), it_upd (by omega) (by omega), if_pos ⟨rfl, rfl⟩]
  have e5 : it N' k 5 = tlO (it N k 5) f how := by rw [hN', it_upd (by omega) (by omega), if_pos ⟨rfl, rfl⟩]
  obtain ⟨Ja, ea, j1, j2, j3, j4⟩ := h.note L
  obtain ⟨_, _, _, _, s5, s6⟩ := j4.2 k hk'
  have et := tell_ok (σ := σ) (L := L) hsa (show k < 8 by omega) f8 hh s5 s6 i4' i5'
  obtain ⟨I1, hI1⟩ : ∃ I1, I1 = rowUp (rowUp Ja (gsa σ + 5) (updA (Ja (gsa σ + 5)) k (nI (tlS (it N k 4) f how)))) (gsa σ + 6) (updA (Ja (gsa σ + 6)) k (nI (tlO (it N k 5) f how))) := ⟨_, rfl⟩
  rw [← hI1] at et
  have r5 : I1 (gsa σ + 5) = updA (Ja (gsa σ + 5)) k (nI (tlS (it N k 4) f how)) := by rw [hI1, rowUp_ne _ _ (by omega), rowUp_same]
  have r6 : I1 (gsa σ + 6) = updA (Ja (gsa σ + 6)) k (nI (tlO (it N k 5) f how)) := by rw [hI1, rowUp_same]
  have ro : ∀ x, x ≠ gsa σ + 5 → x ≠ gsa σ + 6 → I1 x = Ja x := fun x a b => by rw [hI1, rowUp_ne _ _ b, rowUp_ne _ _ a]
  have c1 : CSt I1 (gsa σ) N' := by
    have b3 : bs (fun k => decide (it N' k 6 = 1)) (N 18) = bs (fun k => decide (it N k 6 = 1)) (N 18) := bs_congr fun k' _ => by rw [ih k' 6 (by omega) (by omega) (by omega)]
    refine j4.hi (fun i hi => nh i (by omega) (by omega)) (by rw [ro _ (by omega) (by omega), nh 17 (by omega) (by omega)]; exact j4.1.1) (by rw [ro _ (by omega) (by omega), nh 16 (by omega) (by omega)]; exact j4.1.2.1) (by rw [ro _ (by omega) (by omega), nh 18 (by omega) (by omega)]; exact j4.1.2.2.1) (by rw [ro _ (by omega) (by omega), nh 18 (by omega) (by omega), b3]; exact j4.1.2.2.2.1) (fun k hk' => by rw [ro _ (by omega) (by omega)]) (fun k' hk'' => ?_)
    rw [nh 18 (by omega) (by omega)] at hk''
    obtain ⟨d1, d2, d3, d4, d5, d6⟩ := j4.2 k' hk''
    rw [ih k' 0 (by omega) (by omega) (by omega), ih k' 1 (by omega) (by omega) (by omega), ih k' 2 (by omega) (by omega) (by omega), ih k' 3 (by omega) (by omega) (by omega), ro _ (by omega) (by omega), ro _ (by omega) (by omega), ro _ (by omega) (by omega), ro _ (by omega) (by omega), r5, r6, updA_at, updA_at]
    refine ⟨d1, d2, d3, d4, ?_, ?_⟩
    · by_cases e : k' = k
      · subst e; rw [if_pos rfl, e4]
      · rw [if_neg e, ih k' 4 (by omega) (by omega) (by omega)]; exact d5
    · by_cases e : k' = k
      · subst e; rw [if_pos rfl, e5]
      · rw [if_neg e, ih k' 5 (by omega) (by omega) (by omega)]; exact d6
  have fI1 : ∀ x, (x < gsa σ ∨ gsa σ + 7 ≤ x) → I1 x = Ja x := fun x hx => ro x (by omega) (by omega)
  have tl := tlS_lt (how := how) i4' f8
  have tlo := tlO_lt (how := how) i5' f8
  obtain ⟨b1, b2⟩ := cact_done h hEX j1 j2 j3 c1 fI1 (fun _ _ => rfl) (psh_EX p6 p2.1 h3)
  refine ⟨I1, ?_, by rw [← hN']; exact b1, b2⟩
  · unfold mX11_say_b160
    rw [gHist, obind, gSa, ea, obind, gSa, et, obind, gSa, gR_st hsa, obind, RF_st_13 σ hsa, at_r (SH_st5 hsa) (by omega) (by omega), obind, r5, updA_same, cbits_ok _ tl, obind]
/-- say -/
theorem c_say (h : CB σ I L T N a P K Q) (x y z : Int32) : AX σ I L T N a P K Q (mX11_say 100 x y z (hk σ I L)) (∀ k f j, x = nI k → y = nI f → z = nI j → k < N 18 → f < T 1 → j < 2 → it N k 6 ≠ 1 → (it N k 4).testBit f = false → (kn N f = true → N (8 + f) = j) → False)
    (fun N' => ∀ k f j, x = nI k → y = nI f → z = nI j → k < N 18 → f < T 1 → j < 3 → N' = updA (updA N (19 + 8 * k + 4) (tlS (it N k 4) f j)) (19 + 8 * k + 5) (tlO (it N k 5) f j)) := by
  obtain ⟨h1, h3, ⟨p1, p2, p4, p6, p7⟩, h6⟩ := id h
  have hW := h1.2.1
  have w1 := hW.1.2.1
  have hsa := h1.1.2.1
  have h18 := h3.1.2.2.2.1.2
  have sl := bs_lt (fun k => decide (it N k 6 = 1)) (N 18)
  have sp := Nat.pow_le_pow_right (n := 2) (by omega) h18
  rcases ixn x (N 18) (by omega) with ⟨k, hk', rfl, hd⟩ | hd
  · rcases ixn y (T 1) (by omega) with ⟨f, hf, rfl, hdf⟩ | hdf
    · rcases ixn z 3 (by omega) with ⟨how, hh, rfl, hdh⟩ | hdh
      · have f8 : f < 8 := by omega
        have nf := (h3.1.1 f f8)
        have kF := knF_lt N
        have kS := knS_lt N
        have kb : (knF N).testBit f = kn N f := by unfold knF; rw [bs_bit, decide_eq_true f8, Bool.true_and]
        have ksb : kn N f = true → (knS N).testBit f = decide (N (8 + f) = 1) := fun q => by unfold knS; rw [bs_bit, decide_eq_true f8, Bool.true_and, q, Bool.true_and]
        obtain ⟨i4, i5, i54⟩ := WN.say hW h3.1 hk'
        obtain ⟨_, _, _, _, s5, s6⟩ := h1.2.2.2.2.2 k hk'
        have str : mX11_has (nI (bs (fun k => decide (it N k 6 = 1)) (N 18))) (nI k) = some (bI (decide (it N k 6 = 1))) := by
          rw [has_nI (by omega) (by omega), bs_bit, decide_eq_true hk', Bool.true_and]
        have n6 := (h3.1.2.2.2.2.1 k hk').2.2.2.2.2.2.1
        by_cases hs : it N k 6 = 1
        · refine AX.no' h (v := -2) (by decide) ?_ ?_
          · unfold mX11_say
            rw [if_pos s100, cisCount_ok h1, obind, bI_if0, hd, if_neg nTF, cisFact_ok h1, obind, bI_if0, hdf, if_neg nTF, if_neg (nI_pos (show how < 2 ^ 31 by omega)), if_neg (n2_nlt hh), gSa, gI_st hsa, obind, h1.2.2.2.2.1.2.2.2.1, str, obind, bI_if0, decide_eq_true hs, if_neg nTF]
          · intro k2 f2 j2 e3 e4 e5 hk2 hf2 hj2 q _ _; have := (nI_eq (by omega) (by omega)).mp e3; subst this; have := (nI_eq (by omega) (by omega)).mp e4; subst this; have := (nI_eq (by omega) (by omega)).mp e5; subst this; exact q hs
        · obtain ⟨cu, hcu⟩ : ∃ cu, cu = cur (it N k 4) (it N k 5) f := ⟨_, rfl⟩
          -- the class
          have b114 : mX11_say_b114 100 (nI k) (nI f) (nI how) (hk σ I L) = if how < 2 ∧ kn N f = true ∧ N (8 + f) ≠ how then some (-4, hk σ I L) else mX11_say_b160 100 (nI k) (nI f) (nI how) (hk σ I L) := by
            unfold mX11_say_b114
            rw [show (2 : Int32) = nI 2 from rfl, c_ltd (by omega) (by omega)]
            by_cases e : how < 2
            · rw [if_pos e, gSa, known_ok hsa h1.2.2.2.2, obind, has_nI (by omega) (by omega), obind, bI_if0, kb]
              cases q : kn N f
              · rw [if_pos rfl, if_neg (fun z => by cases z.2.1)]
              · rw [if_neg nTF, gSa, gI_st hsa, obind, h1.2.2.2.2.1.2.2.2.2.2.2.2.2, has_nI (by omega) (by omega), obind, ksb q, c_1 (by omega)]
                unfold mX11_say_b154
                rcases (show how = 0 ∨ how = 1 by omega) with rfl | rfl
                · rw [if_neg (by omega)]
                  by_cases n : N (8 + f) = 1
                  · rw [decide_eq_true n, if_neg (by decide), if_pos ⟨by omega, rfl, by omega⟩]
                  · rw [decide_eq_false n, if_pos (show bI false = 0 from rfl), if_neg (fun z => z.2.2 (by have := nf.2.1; omega))]
                · rw [if_pos rfl]
                  by_cases n : N (8 + f) = 1
                  · rw [decide_eq_true n, if_pos (show bI true = 1 from rfl), if_neg (fun z => z.2.2 n)]
                  · rw [decide_eq_false n, if_neg (by decide), if_pos ⟨by omega, rfl, n⟩]
            · rw [if_neg e, if_neg (fun z => e z.1)]
          have cls : mX11_say 100 (nI k) (nI f) (nI how) (hk σ I L) = if cu = how then some (-3, hk σ I L) else mX11_say_b114 100 (nI k) (nI f) (nI how) (hk σ I L) := by
            unfold mX11_say
            rw [if_pos s100, cisCount_ok h1, obind, bI_if0, hd, if_neg nTF, cisFact_ok h1, obind, bI_if0, hdf, if_neg nTF, if_neg (nI_pos (show how < 2 ^ 31 by omega)), if_neg (n2_nlt hh), gSa, gI_st hsa, obind, h1.2.2.2.2.1.2.2.2.1, str, obind, bI_if0, decide_eq_false hs, if_pos rfl, gSa, gR_st hsa, obind, RF_st_13 σ hsa, at_r (SH_st5 hsa) (by omega) (by omega), obind, s5, has_nI (by omega) (by omega), obind, gSa, gR_st hsa, obind, RF_st_14 σ hsa, at_r (SH_st6 hsa) (by omega) (by omega), obind, s6, has_nI (by omega) (by omega), obind, hcu]
            unfold mX11_say_b108 cur
            rcases (show how = 0 ∨ how = 1 ∨ how = 2 by omega) with rfl | rfl | rfl <;> cases (it N k 4).testBit f <;> cases (it N k 5).testBit f <;> rfl
          -- the reference
          by_cases e1 : cu = how
          · refine AX.no' h (v := -3) (by decide) ?_ ?_
            · rw [cls, if_pos e1]
            · intro k2 f2 j2 e3 e4 e5 hk2 hf2 hj2 _ q _; have := (nI_eq (by omega) (by omega)).mp e3; subst this; have := (nI_eq (by omega) (by omega)).mp e4; subst this; have := (nI_eq (by omega) (by omega)).mp e5; subst this; rw [hcu] at e1; unfold cur at e1; rw [q, if_neg (by decide)] at e1; omega
          · by_cases e2 : how < 2 ∧ kn N f = true ∧ N (8 + f) ≠ how
            · refine AX.no' h (v := -4) (by decide) ?_ ?_
              · rw [cls, if_neg e1, b114, if_pos e2]
              · intro k2 f2 j2 e3 e4 e5 hk2 hf2 hj2 _ _ q; have := (nI_eq (by omega) (by omega)).mp e3; subst this; have := (nI_eq (by omega) (by omega)).mp e4; subst this; have := (nI_eq (by omega) (by omega)).mp e5; subst this; exact e2.2.2 (q e2.2.1)
            · obtain ⟨I1, g1, b1, b2⟩ := c_say_fin h hk' hf hh
              refine ⟨nI (pc (tlS (it N k 4) f how)), I1, L, ?_, b2, Or.inr ⟨nI_pos (by have := pc_le (tlS (it N k 4) f how); omega), _, b1, fun k2 f2 j2 e3 e4 e5 hk2 hf2 hj2 => ?_⟩⟩
              · rw [cls, if_neg e1, b114, if_neg e2]; exact g1
              · have := (nI_eq (by omega) (by omega)).mp e3; subst this; have := (nI_eq (by omega) (by omega)).mp e4; subst this; have := (nI_eq (by omega) (by omega)).mp e5; subst this
                rfl
      · refine AX.no' h (v := -1) (by decide) ?_ ?_
        · unfold mX11_say
          rw [if_pos s100, cisCount_ok h1, obind, bI_if0, hd, if_neg nTF, cisFact_ok h1, obind, bI_if0, hdf, if_neg nTF]
          rcases ix_cases z with hy | ⟨j, hj, rfl⟩
          · rw [if_pos hy]
          · rw [nI_toInt hj] at hdh
            have := of_decide_eq_false hdh
            rw [if_neg (nI_pos hj), if_pos (show (2 : Int32) < nI j from nI_lt (show 2 < j by omega) hj)]
        · intro k2 f2 j2 e3 e4 e5 hk2 hf2 hj2 _ _ _; subst e5; rw [show (decide (0 ≤ (nI j2).toInt ∧ (nI j2).toInt < ((3 : Nat) : Int))) = true from dIn (by omega) (by omega)] at hdh; cases hdh
    · refine AX.no' h (v := -1) (by decide) ?_ ?_
      · unfold mX11_say
        rw [if_pos s100, cisCount_ok h1, obind, bI_if0, hd, if_neg nTF, cisFact_ok h1, obind, bI_if0, hdf, if_pos rfl]
      · intro k2 f2 j2 e3 e4 e5 hk2 hf2 hj2 _ _ _; subst e4; rw [dIn hf2 (by omega)] at hdf; cases hdf
  · refine AX.no' h (v := -1) (by decide) ?_ ?_
    · unfold mX11_say
      rw [if_pos s100, cisCount_ok h1, obind, bI_if0, hd, if_pos rfl]
    · intro k2 f2 j2 e3 e4 e5 hk2 hf2 hj2 _ _ _; subst e3; rw [dIn hk2 (by omega)] at hd; cases hd
/-- a state from elsewhere comes in -/
theorem cact_in (h : CB σ I L T N a P K Q) (hEX : EX T N') (hHC : HC I1 a' P') (c1 : CSt I1 (gsa σ) N') (if1 : ∀ x, (x < 285 ∨ x = 286 ∨ x = 287 ∨ 400 ≤ x) → (x < gsa σ ∨ gsa σ + 7 ≤ x) → I1 x = I x) (i5 : ∀ k, k ≠ 3 → k ≠ 4 → I1 285 k = I 285 k)
    (hP' : ∀ j, j < a' → EX T (P' j)) : CB σ I1 L T N' a' P' K Q ∧ FrA I L I1 L := by
  have hsa := h.1.1.2.1
  have p1 := h.2.2.1.1
  have g1 : 268 ≤ gsa σ := by unfold isSt at hsa; omega
  have g2 : gsa σ + 7 ≤ 282 := by unfold isSt at hsa; omega
  obtain ⟨Ja, hJa⟩ : ∃ Ja : Nat → Nat → Int32, Ja = fun x => if gsa σ ≤ x ∧ x < gsa σ + 7 then I x else I1 x := ⟨_, rfl⟩
  have jo : ∀ x, (x < gsa σ ∨ gsa σ + 7 ≤ x) → Ja x = I1 x := fun x hx => by rw [hJa]; exact if_neg (by omega)
  refine cact_done h hEX (Ja := Ja) (hHC.fr (by rw [jo 285 (by omega)]) (by rw [jo 285 (by omega)]) (fun x a b => jo x (by omega))) (fun x hx => ?_) (fun k k3 k4 => by rw [jo 285 (by omega), i5 k k3 k4]) c1 (fun x hx => (jo x hx).symm) (fun _ _ => rfl) hP'
  by_cases e : gsa σ ≤ x ∧ x < gsa σ + 7
  · rw [hJa]; exact if_pos e
  · rw [jo x (by omega)]; exact if1 x hx (by omega)
/-- undo -/
theorem c_undo (h : CB σ I L T N a P K Q) : ∃ v I1, mX11_undo 100 (hk σ I L) = some (v, hk σ I1 L) ∧ FrA I L I1 L ∧ ((a = 0 ∧ v = -1 ∧ I1 = I) ∨ (0 < a ∧ v = nI (a - 1) ∧ CB σ I1 L T (P (a - 1)) (a - 1) P K Q)) := by
  obtain ⟨h1, h3, ⟨p1, p2, p4, p6, p7⟩, h6⟩ := id h
  have hsa := h1.1.2.1
  have g2 : gsa σ + 7 ≤ 282 := by unfold isSt at hsa; omega
  have h4 := p2.2.1
  have a16 := p2.1
  by_cases ha : a = 0
  · refine ⟨-1, I, ?_, FrA.rf, Or.inl ⟨ha, rfl, rfl⟩⟩
    unfold mX11_undo mX0_takeBack
    rw [if_pos s100, gHist, obind, gSa, if_pos s285, gI_o 4 (n := 5) rfl, obind, h4, ha, if_pos (show nI 0 = 0 from rfl), b2s, if_pos rfl]
  · obtain ⟨I1, e1, q1, q2, q3, q4⟩ := ctake_ok (σ := σ) (L := L) p2 hsa p1 (by omega)
    have hEX := p6 (a - 1) (by omega)
    obtain ⟨b1, b2⟩ := cact_in h hEX q1 q2 (fun x hx hy => q3 x (by omega) hy) q4 (fun j hj => p6 j (by omega))
    refine ⟨nI (a - 1), I1, ?_, b2, Or.inr ⟨by omega, rfl, b1⟩⟩
    unfold mX11_undo
    rw [if_pos s100, gHist, obind, gSa, e1, b2s, if_neg (show ¬ (1 : Int32) = 0 by decide), gHist, obind, gI_o 4 (n := 5) rfl, obind, q1.2.1]
/-- keep -/
theorem c_keep (h : CB σ I L T N a P K Q) {i : Nat} (hi : i < 2) : ∃ I1, mX11_keep 100 (nI i) (hk σ I L) = some (1, hk σ I1 L) ∧ FrA I L I1 L ∧ CB σ I1 L T N a P (updA K i true) (updA Q i N) := by
  obtain ⟨h1, h3, ⟨p1, p2, p4, p6, p7⟩, h6⟩ := id h
  have hsa := h1.1.2.1
  have g1 : 268 ≤ gsa σ := by unfold isSt at hsa; omega
  have g2 : gsa σ + 7 ≤ 282 := by unfold isSt at hsa; omega
  obtain ⟨I1, e1, q1, q2, q3⟩ := cstore_ok (σ := σ) (L := L) p4 hi hsa p1 h1.2.2.2.2 h3.1.2.2.2.1.2 h3.1.2.1
  have fA : FrA I L I1 L := fun x hx => ⟨q2 x (by omega) (by omega), rfl⟩
  have s2 : CSt I1 (gsa σ) N := h1.2.2.2.2.eq fun x a b => q2 x (by omega) (by omega)
  refine ⟨I1, ?_, fA, h1.act fA.f0 s2 h3.1, h3, ⟨p1, ?_, q1, p6, fun j hj hk' => ?_⟩, h6.f0 fA.f0⟩
  · unfold mX11_keep
    rw [if_pos s100, gHist, obind, gSa, e1, b2s]; rfl
  · exact p2.fr (by rw [q3 3 (by omega)]) (by rw [q3 4 (by omega)]) (fun x a b => q2 x (by omega) (by omega))
  · by_cases e : j = i
    · subst e; rw [updA_same]; exact h3
    · rw [updA_ne _ _ e] at hk' ⊢; exact p7 j hj hk'
/-- again -/
theorem c_again (h : CB σ I L T N a P K Q) {i : Nat} (hi : i < 2) (hk' : K i = true) : ∃ I1, mX11_again 100 (nI i) (hk σ I L) = some (1, hk σ I1 L) ∧ FrA I L I1 L ∧ CB σ I1 L T (Q i) (min (a + 1) 16) (psh a P N) K Q := by
  obtain ⟨h1, h3, ⟨p1, p2, p4, p6, p7⟩, h6⟩ := id h
  have hsa := h1.1.2.1
  have g2 : gsa σ + 7 ≤ 282 := by unfold isSt at hsa; omega
  obtain ⟨I1, e1, q1, q2, q3, q4⟩ := crestore_ok (σ := σ) (L := L) p2 p4 hi hk' hsa p1 h1.2.2.2.2 h3.1.2.2.2.1.2 h3.1.2.1
  have hEX := p7 i hi hk'
  obtain ⟨b1, b2⟩ := cact_in h hEX q1 q2 q3 q4 (psh_EX p6 p2.1 h3)
  refine ⟨I1, ?_, b2, b1⟩
  unfold mX11_again
  rw [if_pos s100, gHist, obind, gSa, e1, b2s]; rfl
/-- close -/
theorem c_close (h : CB σ I L T N a P K Q) : AX σ I L T N a P K Q (mX11_close 100 (hk σ I L)) True (fun _ => True) := by
  obtain ⟨h1, h3, ⟨p1, p2, p4, p6, p7⟩, h6⟩ := id h
  have hW := h1.2.1
  have w1 := hW.1.2.1
  have hsa := h1.1.2.1
  have hla := h1.1.1
  obtain ⟨c1, c2⟩ := h.clo
  by_cases hc : N 16 = 0
  · obtain ⟨Ja, ea, j1, j2, j3, j4⟩ := h.note L
    obtain ⟨N', hN'⟩ : ∃ N', N' = updA (cln T N (T 1)).1 16 1 := ⟨_, rfl⟩
    obtain ⟨x1, x2, x3⟩ := cln_EX hW h3 hc (T 1) (Nat.le_refl _)
    have hEX : EX T N' := by rw [hN']; exact x1.clo
    have lh : lft T N' = lft T (cln T N (T 1)).1 := lft_hi fun i hi => by rw [hN', updA_ne _ _ (by omega)]
    have cls : ∃ I1 r, mX11_close_l28 100 0 0 (hk σ Ja L) = some (nI (cln T N (T 1)).2, hk σ I1 (rowUp L 415 r)) ∧ CSt I1 (gsa σ) N' ∧ ∀ x, x ≠ gsa σ → I1 x = Ja x := by
      unfold mX11_close_l28
      obtain ⟨o, e, I1, r, rfl, q1, q2⟩ := lp_inv (f := fun s : Int32 × Int32 × Hp => mX11_close_l28f 100 s.1 s.2.1 s.2.2) (T 1) (fun f st => ∃ I1 r, st = (nI (cln T N f).2, nI f, hk σ I1 (rowUp L 415 r)) ∧ CSt I1 (gsa σ) (cln T N f).1 ∧ ∀ x, x ≠ gsa σ → I1 x = Ja x)
        (fun o => ∃ I1 r, o = (nI (cln T N (T 1)).2, hk σ I1 (rowUp L 415 r)) ∧ CSt I1 (gsa σ) N' ∧ ∀ x, x ≠ gsa σ → I1 x = Ja x)
        (fun f st hf hQ => by
          obtain ⟨I1, r, rfl, q1, q2⟩ := hQ
          obtain ⟨y1, y2, y3⟩ := cln_EX hW h3 hc f (by omega)
          have cr := cact_cr (L1 := rowUp L 415 r) h y1 j2 q1 (fun x hx => q2 x (by omega)) (up415 r)
          obtain ⟨I2, r2, e2, s1, s2⟩ := cclose1 (n := (cln T N f).2) cr y2 hf
          rw [rowUp_two] at e2
          exact ⟨_, e2, I2, r2, rfl, s1, fun x hx => by rw [s2 x hx, q2 x hx]⟩)
        (fun st hQ => by
          obtain ⟨I1, r, rfl, q1, q2⟩ := hQ
          have cr := cact_cr (L1 := rowUp L 415 r) h x1 j2 q1 (fun x hx => q2 x (by omega)) (up415 r)
          refine ⟨(nI (cln T N (T 1)).2, hk σ (rowUp I1 (gsa σ) (updA (I1 (gsa σ)) 1 1)) (rowUp L 415 r)), ?_, rowUp I1 (gsa σ) (updA (I1 (gsa σ)) 1 1), r, rfl, ?_, fun x hx => by rw [rowUp_ne _ _ hx, q2 x hx]⟩
          · show mX11_close_l28f 100 (nI (cln T N (T 1)).2) (nI (T 1)) (hk σ I1 (rowUp L 415 r)) = _
            unfold mX11_close_l28f mX11_close_b70
            rw [gLa, gI_la hla, obind, cr.2.2.2.1.1.2.1, c_nlt (Nat.le_refl _) (by omega), gSa, sZ_ok (sSt hsa) (Or.inr rfl), obind, setI_hk, hpI_hk', xts]
          · have nh : ∀ i, i ≠ 16 → N' i = (cln T N (T 1)).1 i := fun i hi => by rw [hN', updA_ne _ _ hi]
            have ih : ∀ k j, it N' k j = it (cln T N (T 1)).1 k j := fun k j => nh _ (by omega)
            refine q1.hi (fun i hi => nh i (by omega)) (by rw [rowUp_same, updA_ne _ _ (by omega), nh 17 (by omega)]; exact q1.1.1) (by rw [rowUp_same, updA_same, hN', updA_same]; rfl) (by rw [rowUp_same, updA_ne _ _ (by omega), nh 18 (by omega)]; exact q1.1.2.2.1) (by simp only [ih]; rw [rowUp_same, updA_ne _ _ (by omega), nh 18 (by omega)]; exact q1.1.2.2.2.1) (fun k hk' => by rw [rowUp_same, updA_ne _ _ (by omega)]) (fun k hk' => ?_)
            rw [nh 18 (by omega)] at hk'
            simp only [ih]
            rw [rowUp_ne _ _ (by omega), rowUp_ne _ _ (by omega), rowUp_ne _ _ (by omega), rowUp_ne _ _ (by omega), rowUp_ne _ _ (by omega), rowUp_ne _ _ (by omega)]
            exact q1.2 k hk') (s := (nI 0, nI 0, hk σ Ja (rowUp L 415 (L 415)))) ⟨Ja, L 415, rfl, j4, fun _ _ => rfl⟩
      rw [rowUp_id] at e
      exact ⟨I1, r, e, q1, q2⟩
    obtain ⟨I1, r, ec, s1, s2⟩ := cls
    have fI1 : ∀ x, (x < gsa σ ∨ gsa σ + 7 ≤ x) → I1 x = Ja x := fun x hx => s2 x (by omega)
    obtain ⟨b1, b2⟩ := cact_done h hEX j1 j2 j3 s1 fI1 (up415 r) (psh_EX p6 p2.1 h3)
    refine ⟨nI (cln T N (T 1)).2, I1, rowUp L 415 r, ?_, b2, Or.inr ⟨nI_pos (by omega), _, b1, trivial⟩⟩
    · unfold mX11_close
      rw [if_pos s100, gSa, c1, obind, hc, if_pos (show nI 0 = 0 from rfl), gHist, obind, gSa, ea, obind, ec]
  · have hc1 : N 16 = 1 := by omega
    refine AX.no' h (v := -2) (by decide) ?_ ?_
    · unfold mX11_close
      rw [if_pos s100, gSa, c1, obind, hc1, if_neg (show ¬ nI 1 = 0 by decide)]
    · trivial
end C4
