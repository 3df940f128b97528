section Answer
variable {σ : Sg} {I I' J I1 I2 Ja : Nat → Nat → Int32} {L L' L1 L2 : Nat → Nat → Int64} {T N N' : Nat → Nat} {a a' : Nat} {P P' : Nat → Nat → Nat} {K : Nat → Bool} {Q : Nat → Nat → Nat}
theorem MI.fw (h : MI I T N) (f : ∀ x, x = 434 ∨ x = 438 ∨ (444 ≤ x ∧ x ≤ 447) → I' x = I x) : MI I' T N := by
  obtain ⟨m1, m2, m3, m4, m5, m6, m7, m8⟩ := h
  exact ⟨fun i hi => by rw [f 434 (by omega)]; exact m1 i hi, fun i hi => by rw [f 438 (by omega)]; exact m2 i hi, m3, m4, by rw [f 444 (by omega)]; exact m5, fun e he => by rw [f 445 (by omega)]; exact m6 e he, fun k hk' => by rw [f 446 (by omega)]; exact m7 k hk', by rw [f 447 (by omega)]; exact m8⟩
/-- the class's side of an act: what is noted, and then its state alone is another -/
theorem act_cls (h : BI σ I L T N a P K Q) (hEX : EX T N') (jf : ∀ x, (x < 285 ∨ x = 286 ∨ x = 287 ∨ 400 ≤ x) → Ja x = I x) (i1 : CSt I1 (gsa σ) N') (if1 : ∀ x, (x < gsa σ ∨ gsa σ + 7 ≤ x) → I1 x = Ja x) (L1f : ∀ x, x ≠ 415 → L1 x = L x) :
    (∀ x, 414 ≤ x → I1 x = I x) ∧ MI I1 T N ∧ CR σ I1 L1 T N' := by
  obtain ⟨h1, h2, h3, ⟨p1, p2, p3, p4, p5, p6, p7⟩, h5, h6⟩ := id h
  have hsa := h1.1.2.1
  have g1 : 268 ≤ gsa σ := by unfold isSt at hsa; omega
  have g2 : gsa σ + 7 ≤ 282 := by unfold isSt at hsa; omega
  have hi : ∀ x, 414 ≤ x → I1 x = I x := fun x hx => by rw [if1 x (by omega), jf x (by omega)]
  refine ⟨hi, h2.fr fun x hx => hi x (by omega), h1.act ⟨fun x hx => ⟨?_, ?_⟩, fun k _ _ _ => by rw [hi 433 (by omega)], fun k _ _ => by rw [L1f 433 (by omega)]⟩ i1 hEX.1⟩
  · unfold KR at hx
    rw [if1 x (by omega), jf x (by omega)]
  · unfold KR at hx
    exact L1f x (by omega)
/-- what BI says of an answer's tests -/
theorem BI.clo (h : BI σ I L T N a P K Q) : (∀ Lx, gI 5 1 (gsa σ) (hk σ I Lx) = some (nI (N 16))) ∧ N 16 ≤ 1 ∧ ∀ Lx, ldI 438 (16 : Int32) (hk σ I Lx) = some (nI (N 16)) :=
  ⟨fun Lx => by rw [gI_st h.1.1.2.1, h.1.2.2.2.2.1.2.1], h.2.2.1.1.2.1, fun Lx => ldN h.2.1.2.1 (i := 16) (by omega)⟩
theorem sme_ex {f : Nat} {so : Bool} (h : sme T N f so = true) : ∃ w, w < 256 ∧ lft T N w = true ∧ (w.testBit f == so) = true := by
  unfold sme at h
  obtain ⟨w, h1, h2⟩ := anyB_iff.mp h
  rw [Bool.and_eq_true] at h2
  exact ⟨w, h1, h2.1, h2.2⟩
end Answer
