section Answer
variable {σ : Sg} {I I' J I1 I2 Ja : Nat → Nat → Int32} {L L' L1 L2 : Nat → Nat → Int64} {T N N' : Nat → Nat} {a a' : Nat} {P P' : Nat → Nat → Nat} {K : Nat → Bool} {Q : Nat → Nat → Nat}
theorem MI.fw (h : MI I T N) (f : ∀ x, x = 434 ∨ x = 438 ∨ (444 ≤ x ∧ x ≤ 447) → I' x = I x) : MI I' T N := by
  obtain ⟨m1, m2, m3, m4, m5, m6, m7, m8⟩ := h
  exact ⟨fun i hi => by rw [f 434 (by omega)]; exact m1 i hi, fun i hi => by rw [f 438 (by omega)]; exact m2 i hi, m3, m4, by rw [f 444 (by omega)]; exact m5, fun e he => by rw [f 445 (by omega)]; exact m6 e he, fun k hk' => by rw [f 446 (by omega)]; exact m7 k hk', by rw [f 447 (by omega)]; exact m8⟩
/-- the class's side of an act: what is noted, and then its state alone is another -/
theorem act_cls (h : BI σ I L T N a P K Q) (hEX : EX T N') (jf : ∀ x, (x < 285 ∨ x = 286 ∨ x = 287 ∨ 400 ≤ x) → Ja x = I x) (i1 : CSt I1 (gsa σ) N') (if1 : ∀ x, (x < gsa σ ∨ gsa σ + 7 ≤ x) → I1 x = Ja x) (L1f : ∀ x, x ≠ 415 → L1 x = L x) :
    (∀ x, 414 ≤ x → I1 x = I x) ∧ MI I1 T N ∧ CR σ I1 L1 T N' := by
  obtain ⟨h1, h2, h3, ⟨p1, p2, p3, p4, p5, p6, p7⟩, h5, h6⟩ := id h
  have hsa := h1.1.2.1
  have g1 : 268 ≤ gsa σ := by unfold isSt at hsa; omega
  have g2 : gsa σ + 7 ≤ 282 := by unfold isSt at hsa; omega
  have hi : ∀ x, 414 ≤ x → I1 x = I x := fun x hx => by rw [if1 x (by omega), jf x (by omega)]
  refine ⟨hi, h2.fr fun x hx => hi x (by omega), h1.act ⟨fun x hx => ⟨?_, ?_⟩, fun k _ _ _ => by rw [hi 433 (by omega)], fun k _ _ => by rw [L1f 433 (by omega)]⟩ i1 hEX.1⟩
  · unfold KR at hx
    rw [if1 x (by omega), jf x (by omega)]
  · unfold KR at hx
    exact L1f x (by omega)
/-- a FACT is made to be in some way, on both sides -/
theorem act_make (h : BI σ I L T N a P K Q) {f how so : Nat} (is : Bool) (hf : f < T 1) (hh : how ≤ 4) (hso : so = if (is && (decide (how = 1) || decide (how = 4))) = true then 1 else 0) (hEX : EX T (mkn N f how so)) (L1f : ∀ x, x ≠ 415 → L1 x = L x) :
    ∃ Ja I1 I3 I2, mX0_note 285 (gsa σ) (hk σ I L1) = some (hk σ Ja L1) ∧ mX5_become (gsa σ) (nI f) (nI how) (bI is) (hk σ Ja L1) = some (hk σ I1 L1) ∧ MI I1 T N ∧ CR σ I1 L1 T (mkn N f how so) ∧
      mX12_keepsAct 433 (hk σ I1 L1) = some (hk σ I3 L1) ∧ mX12_makes 433 (nI f) (nI how) (nI so) (hk σ I3 L1) = some (hk σ I2 L1) ∧ BI σ I2 L1 T (mkn N f how so) (min (a + 1) 16) (psh a P N) K Q ∧ Fr0 I L I2 L1 ∧ I1 1 = I 1 := by
  obtain ⟨h1, h2, h3, ⟨p1, p2, p3, p4, p5, p6, p7⟩, h5, h6⟩ := id h
  have hW := h1.2.1
  have w1 := hW.1.2.1
  have hsa := h1.1.2.1
  obtain ⟨Ja, ea, j1, j2, j3, j4⟩ := h.note L1
  obtain ⟨I1, e1, c1, f1⟩ := become_ok (σ := σ) (L := L1) is hsa j4 (show f < 8 by omega) hh
  rw [← hso] at c1
  have fI1 : ∀ x, (x < gsa σ ∨ gsa σ + 7 ≤ x) → I1 x = Ja x := fun x hx => f1 x (by omega)
  obtain ⟨hi, m1, r1⟩ := act_cls h hEX j2 c1 fI1 L1f
  obtain ⟨I3, e3, k1, k2, k3⟩ := kact_on (L1 := L1) h (by rw [hi 433 (by omega)]) (hi 439 (by omega)) (hi 438 (by omega))
  have m3 : MI I3 T N := m1.fw fun x hx => k2 x (by omega) (by omega)
  obtain ⟨I2, e2, q1, q2, q3⟩ := makes_ok (σ := σ) (L := L1) (T := T) (f := f) (how := how) (so := so) m3.2.1 (by omega) (fun g hg => ⟨(h3.1.1 g hg).1, (h3.1.1 g hg).2.1⟩) hh (by rw [hso]; split <;> omega) m3.2.2.2.2.1
  obtain ⟨b1, b2⟩ := act_done h hEX j1 j2 j3 c1 fI1 L1f (I2 := I2) (k1.fr ⟨by rw [q3 433 (by omega) (by omega)], q3 439 (by omega) (by omega)⟩) q1 q2 (fun x a b c d => by rw [q3 x b d, k2 x a c]) (fun k hk' => by rw [q3 433 (by omega) (by omega), k3 k hk']) (psh_EX p6 p2.1 h3)
  exact ⟨Ja, I1, I3, I2, ea, e1, m1, r1, e3, e2, b1, b2, by rw [fI1 1 (by unfold isSt at hsa; omega), j2 1 (by omega)]⟩
/-- what BI says of an answer's tests -/
theorem BI.clo (h : BI σ I L T N a P K Q) : (∀ Lx, gI 5 1 (gsa σ) (hk σ I Lx) = some (nI (N 16))) ∧ N 16 ≤ 1 ∧ ∀ Lx, ldI 438 (16 : Int32) (hk σ I Lx) = some (nI (N 16)) :=
  ⟨fun Lx => by rw [gI_st h.1.1.2.1, h.1.2.2.2.2.1.2.1], h.2.2.1.1.2.1, fun Lx => ldN h.2.1.2.1 (i := 16) (by omega)⟩
theorem sme_ex {f : Nat} {so : Bool} (h : sme T N f so = true) : ∃ w, w < 256 ∧ lft T N w = true ∧ (w.testBit f == so) = true := by
  unfold sme at h
  obtain ⟨w, h1, h2⟩ := anyB_iff.mp h
  rw [Bool.and_eq_true] at h2
  exact ⟨w, h1, h2.1, h2.2⟩
/-- withdraw -/
theorem q_withdraw (h : BI σ I L T N a P K Q) (x : Int32) : AR σ I L T (mX11_withdraw 100 x (hk σ I L)) (fun hp => mX12_withdraw 433 x hp) := by
  obtain ⟨h1, h2, h3, ⟨p1, p2, p3, p4, p5, p6, p7⟩, h5, h6⟩ := id h
  have hW := h1.2.1
  have w1 := hW.1.2.1
  have hsa := h1.1.2.1
  obtain ⟨c1, c2, c3⟩ := h.clo
  rcases ixn x (T 1) (by omega) with ⟨f, hf, rfl, hd⟩ | hd
  · have hN := h3.1.1 f (by omega)
    by_cases hc : N 16 = 0
    · by_cases ha : N f = 1
      · have hEX : EX T (mkn N f 0 0) := by
          obtain ⟨w, hw, hl⟩ := h3.1.2.2.2.2.2
          refine ⟨h3.1.make hW hf (by omega) (by omega) (fun q => by omega) ⟨w, hw, lft_off (by omega) (by omega) hl⟩, fun _ g hg => ?_⟩
          rw [mkn_lo (by omega) hg]
          split
          · omega
          · exact h3.2 hc g hg
        obtain ⟨Ja, I1, I3, I2, ea, e1, m1, r1, e3, e2, b1, b2⟩ := act_make (L1 := L) h false hf (how := 0) (so := 0) (by omega) rfl hEX (fun _ _ => rfl)
        refine ⟨nI (anw (mkn N f 0 0)), I1, L, I2, L, _, _, _, _, _, ?_, ?_, b1, b2⟩
        · unfold mX11_withdraw
          rw [if_pos s100, cisFact_ok h1, obind, bI_if0, hd, if_neg nTF, gSa, c1, obind, hc, if_pos (show nI 0 = 0 from rfl), gSa, howIs_ok h1 (by omega), obind, ha, if_pos (show nI 1 = 1 from rfl), show gR 11 8 100 (hk σ I L) = some 285 from rfl, obind, gSa, ea, obind, gSa, show (0 : Int32) = nI 0 from rfl, show mX5_become (gsa σ) (nI f) (nI 0) (nI 0) (hk σ Ja L) = some (hk σ I1 L) from e1, obind, gSa, canswered_ok r1.1.2.1 r1.2.2.2.2 (fun g hg => (hEX.1.1 g hg).1), obind]
        · show mX12_withdraw 433 (nI f) (hk σ I1 L) = _
          unfold mX12_withdraw
          rw [if_pos s433, misFact_ok m1.1 w1, obind, bI_if0, hd, if_neg nTF, g438, show (16 : Int32) = nI 16 from rfl, ldN m1.2.1 (by omega), obind, hc, if_neg (show ¬ nI 0 = 1 by decide), g438, show (0 : Int32) = nI 0 from rfl, nI_add, Nat.zero_add, ldN m1.2.1 (by omega), obind, ha, if_pos (show nI 1 = 1 from rfl), e3, obind, e2, obind, manswered_ok b1.2.1.1 b1.2.1.2.1 w1 (fun g hg => ⟨(hEX.1.1 g hg).1, (hEX.1.1 g hg).2.2.2⟩), obind]
      · refine AR.no' h (v := -3) ?_ ?_
        · unfold mX11_withdraw
          rw [if_pos s100, cisFact_ok h1, obind, bI_if0, hd, if_neg nTF, gSa, c1, obind, hc, if_pos (show nI 0 = 0 from rfl), gSa, howIs_ok h1 (by omega), obind, c_1 (by omega), if_neg ha]
        · unfold mX12_withdraw
          rw [if_pos s433, misFact_ok h2.1 w1, obind, bI_if0, hd, if_neg nTF, g438, c3, obind, hc, if_neg (show ¬ nI 0 = 1 by decide), g438, show (0 : Int32) = nI 0 from rfl, nI_add, Nat.zero_add, ldN h2.2.1 (by omega), obind, c_1 (by omega), if_neg ha]
    · have hc1 : N 16 = 1 := by omega
      refine AR.no' h (v := -2) ?_ ?_
      · unfold mX11_withdraw
        rw [if_pos s100, cisFact_ok h1, obind, bI_if0, hd, if_neg nTF, gSa, c1, obind, hc1, if_neg (show ¬ nI 1 = 0 by decide)]
      · unfold mX12_withdraw
        rw [if_pos s433, misFact_ok h2.1 w1, obind, bI_if0, hd, if_neg nTF, g438, c3, obind, hc1, if_pos (show nI 1 = 1 from rfl)]
  · refine AR.no' h (v := -1) ?_ ?_
    · unfold mX11_withdraw
      rw [if_pos s100, cisFact_ok h1, obind, bI_if0, hd, if_pos rfl]
    · unfold mX12_withdraw
      rw [if_pos s433, misFact_ok h2.1 w1, obind, bI_if0, hd, if_pos rfl]
end Answer
