/-! ACTS: what holds of both sides between calls, as far as what is told, what is now, what was and is kept -/
def KR (x : Nat) : Prop := x < 108 ∨ (112 ≤ x ∧ x < 268) ∨ (282 ≤ x ∧ x ≤ 284) ∨ x = 421 ∨ (434 ≤ x ∧ x ≤ 437) ∨ x = 442
def Fr0 (I : Nat → Nat → Int32) (L : Nat → Nat → Int64) (I' : Nat → Nat → Int32) (L' : Nat → Nat → Int64) : Prop := (∀ x, KR x → I' x = I x ∧ L' x = L x) ∧ (∀ k, k ≠ 8 → k ≠ 31 → k ≠ 32 → I' 433 k = I 433 k) ∧ ∀ k, k ≠ 36 → k ≠ 37 → L' 433 k = L 433 k
def PA (σ : Sg) (I : Nat → Nat → Int32) (T : Nat → Nat) (a : Nat) (P : Nat → Nat → Nat) (K : Nat → Bool) (Q : Nat → Nat → Nat) : Prop :=
  gsa σ < 282 ∧ HC I a P ∧ HM I a P ∧ KC I K Q ∧ KM I K Q ∧ (∀ j, j < a → EX T (P j)) ∧ ∀ i, i < 2 → K i = true → EX T (Q i)
def BI (σ : Sg) (I : Nat → Nat → Int32) (L : Nat → Nat → Int64) (T N : Nat → Nat) (a : Nat) (P : Nat → Nat → Nat) (K : Nat → Bool) (Q : Nat → Nat → Nat) : Prop :=
  CR σ I L T N ∧ MI I T N ∧ EX T N ∧ PA σ I T a P K Q ∧ P3 I ∧ Th I
/-- a call on both sides -/
def AR (σ : Sg) (I : Nat → Nat → Int32) (L : Nat → Nat → Int64) (T : Nat → Nat) (cls : Option (Int32 × Hp)) (mdl : Hp → Option (Int32 × Hp)) : Prop :=
  ∃ v I1 L1 I2 L2 N' a' P' K' Q', cls = some (v, hk σ I1 L1) ∧ mdl (hk σ I1 L1) = some (v, hk σ I2 L2) ∧ BI σ I2 L2 T N' a' P' K' Q' ∧ Fr0 I L I2 L2 ∧ I1 1 = I 1
section Acts
variable {σ : Sg} {I I' J I1 I2 Ja : Nat → Nat → Int32} {L L' L1 L2 : Nat → Nat → Int64} {T N N' : Nat → Nat} {a a' : Nat} {P P' : Nat → Nat → Nat} {K : Nat → Bool} {Q : Nat → Nat → Nat}
theorem Fr0.rf : Fr0 I L I L := ⟨fun _ _ => ⟨rfl, rfl⟩, fun _ _ _ _ => rfl, fun _ _ _ => rfl⟩
theorem Fr0.tr (h : Fr0 I L I1 L1) (g : Fr0 I1 L1 I2 L2) : Fr0 I L I2 L2 :=
  ⟨fun x hx => ⟨by rw [(g.1 x hx).1, (h.1 x hx).1], by rw [(g.1 x hx).2, (h.1 x hx).2]⟩, fun k a b c => by rw [g.2.1 k a b c, h.2.1 k a b c], fun k a b => by rw [g.2.2 k a b, h.2.2 k a b]⟩
theorem FrC.f0 (h : FrC I L I' L') : Fr0 I L I' L' :=
  ⟨fun x hx => h x (by unfold scC; unfold KR at hx; omega), fun k _ _ _ => by rw [(h 433 (by unfold scC; omega)).1], fun k _ _ => by rw [(h 433 (by unfold scC; omega)).2]⟩
theorem FrM.f0 (h : FrM I L I' L') : Fr0 I L I' L' :=
  ⟨fun x hx => h.1 x (by unfold scM; unfold KR at hx; omega) (by unfold KR at hx; omega), fun k _ b c => h.2.1 k b c, fun k b c => h.2.2 k b c⟩
theorem CLw.eq {la : Nat} (hla : isLa la) (hW : WT T) (h6 : CLw I L la T) (f : ∀ x, 112 ≤ x → x < 268 → I' x = I x ∧ L' x = L x) : CLw I' L' la T := by
  have hn : ∀ j, j < 78 → I' (la + j) = I (la + j) := fun j hj => (f _ (by omega) (by omega)).1
  have hn0 : I' la = I la := hn 0 (by omega)
  have hl : ∀ j, j < 78 → L' (la + j) = L (la + j) := fun j hj => (f _ (by omega) (by omega)).2
  have hl2 : ∀ j, j < 61 → L' (la + 17 + j) = L (la + 17 + j) := fun j hj => (f _ (by omega) (by omega)).2
  obtain ⟨b1, b2, b3, b4, b5, b6, b7⟩ := h6
  have w2 := hW.1.2.2.1
  have w4 := hW.1.2.2.2.2.1
  refine ⟨by rw [hn0]; exact b1, fun i hi => by rw [hn 1 (by omega)]; exact b2 i hi, fun k hk' => ?_, fun p hp => ?_, fun i hi => by rw [hn 7 (by omega)]; exact b5 i hi, fun i hi => by rw [hn 10 (by omega)]; exact b6 i hi, by rw [hl 12 (by omega)]; exact b7⟩
  · obtain ⟨c1, c2, c3, c4⟩ := b3 k hk'
    have b26 := (hW.2.2.1 k hk').2.2.1
    refine ⟨by rw [hn 3 (by omega)]; exact c1, by rw [hn 6 (by omega)]; exact c2, by rw [hl2 _ (by omega)]; exact c3, fun i hi => ?_⟩
    obtain ⟨d1, d2, d3⟩ := c4 i hi
    exact ⟨by rw [hn 8 (by omega)]; exact d1, by rw [hn 9 (by omega)]; exact d2, by rw [hl2 _ (by omega)]; exact d3⟩
  · obtain ⟨c1, c2, c3, c4⟩ := b4 p hp
    exact ⟨by rw [hn 4 (by omega)]; exact c1, by rw [hn 8 (by omega)]; exact c2, by rw [hn 9 (by omega)]; exact c3, by rw [hl2 _ (by omega)]; exact c4⟩
theorem CR.act (h : CR σ I L T N) (f : Fr0 I L I' L') (hs : CSt I' (gsa σ) N') (hN : WN T N') : CR σ I' L' T N' := by
  obtain ⟨⟨h1, h2, h3⟩, h4, h5, h6, h7⟩ := h
  exact ⟨⟨h1, h2, fun k hk' => by rw [(f.1 2 (by unfold KR; omega)).2]; exact h3 k hk'⟩, h4, hN, h6.eq h1 h4 fun x a b => f.1 x (by unfold KR; omega), hs⟩
theorem MI.act (h : MI I T N) (f : ∀ x, x = 434 ∨ (444 ≤ x ∧ x ≤ 446) → I' x = I x) (rn : rN I' N') (hN : WN T N') (r7 : Rm (I' 447) 0 (lft T N')) : MI I' T N' := by
  obtain ⟨m1, m2, m3, m4, m5, m6, m7, m8⟩ := h
  exact ⟨fun i hi => by rw [f 434 (by omega)]; exact m1 i hi, rn, m3, hN, by rw [f 444 (by omega)]; exact m5, fun e he => by rw [f 445 (by omega)]; exact m6 e he, fun k hk' => by rw [f 446 (by omega)]; exact m7 k hk', r7⟩
theorem P3.f0 (h : P3 I) (f : Fr0 I L I' L') : P3 I' := fun k hk' => by rw [(f.1 3 (by unfold KR; omega)).1]; exact h k hk'
theorem Th.f0 (h : Th I) (f : Fr0 I L I' L') : Th I' := fun k hk' => by rw [(f.1 421 (by unfold KR; omega)).1]; exact h k hk'
theorem KM.fr (h : KM I K Q) (f : I' 440 = I 440 ∧ I' 441 = I 441) : KM I' K Q := fun i hi => by rw [f.1, f.2]; exact h i hi
theorem HM.fr (h : HM I a P) (f : I' 433 8 = I 433 8 ∧ I' 439 = I 439) : HM I' a P := ⟨by rw [f.1]; exact h.1, fun j hj i hi => by rw [f.2]; exact h.2 j hj i hi⟩
/-- questions leave all -/
theorem PA.q (h : PA σ I T a P K Q) (f : ∀ x, (285 ≤ x ∧ x < 414) ∨ (439 ≤ x ∧ x ≤ 441) → I' x = I x) (f8 : I' 433 8 = I 433 8) : PA σ I' T a P K Q := by
  obtain ⟨p1, p2, p3, p4, p5, p6, p7⟩ := h
  exact ⟨p1, p2.fr (by rw [f 285 (by omega)]) (by rw [f 285 (by omega)]) (fun x a b => f x (by omega)), p3.fr ⟨f8, f 439 (by omega)⟩, p4.fr (by rw [f 285 (by omega)]) (fun x a b => f x (by omega)), p5.fr ⟨f 440 (by omega), f 441 (by omega)⟩, p6, p7⟩
theorem BI.q (h : BI σ I L T N a P K Q) (fC : FrC I L I1 L1) (fM : FrM I1 L1 I2 L2) : BI σ I2 L2 T N a P K Q := by
  obtain ⟨h1, h2, h3, h4, h5, h6⟩ := h
  refine ⟨(h1.fr fC).frM fM, (h2.frC fC).frM fM, h3, ?_, (h5.frC fC).frM fM, (h6.frC fC).frM fM⟩
  exact h4.q (fun x hx => by rw [(fM.1 x (by unfold scM; omega) (by omega)).1, (fC x (by unfold scC; omega)).1]) (by rw [fM.2.1 8 (by omega) (by omega), (fC 433 (by unfold scC; omega)).1])
theorem AR.q {cls : Option (Int32 × Hp)} {mdl : Hp → Option (Int32 × Hp)} (h : BI σ I L T N a P K Q) {v : Int32} (e1 : cls = some (v, hk σ I1 L1)) (e2 : mdl (hk σ I1 L1) = some (v, hk σ I2 L2)) (fC : FrC I L I1 L1) (fM : FrM I1 L1 I2 L2) : AR σ I L T cls mdl :=
  ⟨v, I1, L1, I2, L2, N, a, P, K, Q, e1, e2, h.q fC fM, fC.f0.tr fM.f0, (fC 1 (by unfold scC; omega)).1⟩
/-- a call that leaves all but the row of worlds -/
theorem AR.no {cls : Option (Int32 × Hp)} {mdl : Hp → Option (Int32 × Hp)} (h : BI σ I L T N a P K Q) {v : Int32} {r : Nat → Int64} (e1 : cls = some (v, hk σ I (rowUp L 415 r))) (e2 : mdl (hk σ I (rowUp L 415 r)) = some (v, hk σ I (rowUp L 415 r))) : AR σ I L T cls mdl :=
  AR.q h e1 e2 (FrC.rf.upL r (by unfold scC; omega)) FrM.rf
theorem AR.no' {cls : Option (Int32 × Hp)} {mdl : Hp → Option (Int32 × Hp)} (h : BI σ I L T N a P K Q) {v : Int32} (e1 : cls = some (v, hk σ I L)) (e2 : mdl (hk σ I L) = some (v, hk σ I L)) : AR σ I L T cls mdl :=
  AR.q h e1 e2 FrC.rf FrM.rf
/-- an act is through -/
theorem act_done (h : BI σ I L T N a P K Q) (hEX : EX T N') (jHC : HC Ja a' P') (jf : ∀ x, (x < 285 ∨ x = 286 ∨ x = 287 ∨ 400 ≤ x) → Ja x = I x) (j5 : ∀ k, k ≠ 3 → k ≠ 4 → Ja 285 k = I 285 k)
    (i1 : CSt I1 (gsa σ) N') (if1 : ∀ x, (x < gsa σ ∨ gsa σ + 7 ≤ x) → I1 x = Ja x) (L1f : ∀ x, x ≠ 415 → L1 x = L x)
    (mHM : HM I2 a' P') (mN : rN I2 N') (mK : Rm (I2 447) 0 (lft T N')) (mf : ∀ x, x ≠ 433 → x ≠ 438 → x ≠ 439 → x ≠ 447 → I2 x = I1 x) (m3 : ∀ k, k ≠ 8 → I2 433 k = I1 433 k)
    (hP' : ∀ j, j < a' → EX T (P' j)) : BI σ I2 L1 T N' a' P' K Q ∧ Fr0 I L I2 L1 := by
  obtain ⟨h1, h2, h3, ⟨p1, p2, p3, p4, p5, p6, p7⟩, h5, h6⟩ := h
  have hsa := h1.1.2.1
  have g1 : 268 ≤ gsa σ := by unfold isSt at hsa; omega
  have g2 : gsa σ + 7 ≤ 282 := by unfold isSt at hsa; omega
  have e2 : ∀ x, x ≠ 433 → x ≠ 438 → x ≠ 439 → x ≠ 447 → (x < gsa σ ∨ gsa σ + 7 ≤ x) → I2 x = Ja x := fun x a b c d e => by rw [mf x a b c d, if1 x e]
  have e3 : ∀ x, x ≠ 433 → x ≠ 438 → x ≠ 439 → x ≠ 447 → (x < gsa σ ∨ gsa σ + 7 ≤ x) → (x < 285 ∨ x = 286 ∨ x = 287 ∨ 400 ≤ x) → I2 x = I x := fun x a b c d e f => by rw [e2 x a b c d e, jf x f]
  have f0 : Fr0 I L I2 L1 := by
    refine ⟨fun x hx => ⟨?_, ?_⟩, fun k k8 k31 k32 => ?_, fun k _ _ => by rw [L1f _ (by omega)]⟩
    · unfold KR at hx
      exact e3 x (by omega) (by omega) (by omega) (by omega) (by omega) (by omega)
    · unfold KR at hx
      exact L1f x (by omega)
    · rw [m3 k k8, if1 433 (by omega), jf 433 (by omega)]
  have s2 : CSt I2 (gsa σ) N' := i1.eq fun x a b => mf x (by omega) (by omega) (by omega) (by omega)
  refine ⟨⟨h1.act f0 s2 hEX.1, h2.act (fun x hx => e3 x (by omega) (by omega) (by omega) (by omega) (by omega) (by omega)) mN hEX.1 mK, hEX, ⟨p1, ?_, mHM, ?_, p5.fr ⟨e3 440 (by omega) (by omega) (by omega) (by omega) (by omega) (by omega), e3 441 (by omega) (by omega) (by omega) (by omega) (by omega) (by omega)⟩, hP', p7⟩, h5.f0 f0, h6.f0 f0⟩, f0⟩
  · exact jHC.fr (by rw [e2 285 (by omega) (by omega) (by omega) (by omega) (by omega)]) (by rw [e2 285 (by omega) (by omega) (by omega) (by omega) (by omega)]) (fun x a b => e2 x (by omega) (by omega) (by omega) (by omega) (by omega))
  · exact p4.fr (by rw [e2 285 (by omega) (by omega) (by omega) (by omega) (by omega), j5 2 (by omega) (by omega)]) (fun x a b => e3 x (by omega) (by omega) (by omega) (by omega) (by omega) (by omega))
theorem psh_EX (hp : ∀ j, j < a → EX T (P j)) (ha : a ≤ 16) (hN : EX T N) : ∀ j, j < min (a + 1) 16 → EX T (psh a P N j) := fun j hj => by
  unfold psh
  by_cases h6 : a < 16
  · rw [if_pos h6]
    by_cases e : j = a
    · rw [if_pos e]; exact hN
    · rw [if_neg e]; exact hp j (by omega)
  · rw [if_neg h6]
    by_cases e : j = 15
    · rw [if_pos e]; exact hN
    · rw [if_neg e]; exact hp (j + 1) (by omega)
/-- noting an act, on both sides -/
theorem BI.note (h : BI σ I L T N a P K Q) (Lx : Nat → Nat → Int64) : ∃ Ja, mX0_note 285 (gsa σ) (hk σ I Lx) = some (hk σ Ja Lx) ∧ HC Ja (min (a + 1) 16) (psh a P N) ∧ (∀ x, (x < 285 ∨ x = 286 ∨ x = 287 ∨ 400 ≤ x) → Ja x = I x) ∧ (∀ k, k ≠ 3 → k ≠ 4 → Ja 285 k = I 285 k) ∧ CSt Ja (gsa σ) N := by
  obtain ⟨h1, h2, h3, ⟨p1, p2, p3, p4, p5, p6, p7⟩, h5, h6⟩ := h
  have hsa := h1.1.2.1
  have w18 := h3.1.2.2.2.1.2
  have w16 := h3.1.2.1
  have g2 : gsa σ + 7 ≤ 282 := by unfold isSt at hsa; omega
  obtain ⟨Ja, e, j1, j2, j3⟩ := cnote_ok (σ := σ) (L := Lx) p2 hsa p1 h1.2.2.2.2 w18 w16
  exact ⟨Ja, e, j1, j2, j3, h1.2.2.2.2.eq fun x a b => j2 x (by omega)⟩
end Acts
