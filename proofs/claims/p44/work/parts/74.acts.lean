/-! ACTS: what holds of both sides between calls, as far as what is told, what is now, what was and is kept -/
def KR (x : Nat) : Prop := x < 108 ∨ (112 ≤ x ∧ x < 268) ∨ (282 ≤ x ∧ x ≤ 284) ∨ x = 421 ∨ (434 ≤ x ∧ x ≤ 437) ∨ x = 442
def Fr0 (I : Nat → Nat → Int32) (L : Nat → Nat → Int64) (I' : Nat → Nat → Int32) (L' : Nat → Nat → Int64) : Prop := (∀ x, KR x → I' x = I x ∧ L' x = L x) ∧ (∀ k, k ≠ 8 → k ≠ 31 → k ≠ 32 → I' 433 k = I 433 k) ∧ ∀ k, k ≠ 36 → k ≠ 37 → L' 433 k = L 433 k
section Acts
variable {σ : Sg} {I I' J I1 I2 Ja : Nat → Nat → Int32} {L L' L1 L2 : Nat → Nat → Int64} {T N N' : Nat → Nat} {a a' : Nat} {P P' : Nat → Nat → Nat} {K : Nat → Bool} {Q : Nat → Nat → Nat}
theorem Fr0.rf : Fr0 I L I L := ⟨fun _ _ => ⟨rfl, rfl⟩, fun _ _ _ _ => rfl, fun _ _ _ => rfl⟩
theorem Fr0.tr (h : Fr0 I L I1 L1) (g : Fr0 I1 L1 I2 L2) : Fr0 I L I2 L2 :=
  ⟨fun x hx => ⟨by rw [(g.1 x hx).1, (h.1 x hx).1], by rw [(g.1 x hx).2, (h.1 x hx).2]⟩, fun k a b c => by rw [g.2.1 k a b c, h.2.1 k a b c], fun k a b => by rw [g.2.2 k a b, h.2.2 k a b]⟩
theorem FrC.f0 (h : FrC I L I' L') : Fr0 I L I' L' :=
  ⟨fun x hx => h x (by unfold scC; unfold KR at hx; omega), fun k _ _ _ => by rw [(h 433 (by unfold scC; omega)).1], fun k _ _ => by rw [(h 433 (by unfold scC; omega)).2]⟩
theorem CLw.eq {la : Nat} (hla : isLa la) (hW : WT T) (h6 : CLw I L la T) (f : ∀ x, 112 ≤ x → x < 268 → I' x = I x ∧ L' x = L x) : CLw I' L' la T := by
  have hn : ∀ j, j < 78 → I' (la + j) = I (la + j) := fun j hj => (f _ (by omega) (by omega)).1
  have hn0 : I' la = I la := hn 0 (by omega)
  have hl : ∀ j, j < 78 → L' (la + j) = L (la + j) := fun j hj => (f _ (by omega) (by omega)).2
  have hl2 : ∀ j, j < 61 → L' (la + 17 + j) = L (la + 17 + j) := fun j hj => (f _ (by omega) (by omega)).2
  obtain ⟨b1, b2, b3, b4, b5, b6, b7⟩ := h6
  have w2 := hW.1.2.2.1
  have w4 := hW.1.2.2.2.2.1
  refine ⟨by rw [hn0]; exact b1, fun i hi => by rw [hn 1 (by omega)]; exact b2 i hi, fun k hk' => ?_, fun p hp => ?_, fun i hi => by rw [hn 7 (by omega)]; exact b5 i hi, fun i hi => by rw [hn 10 (by omega)]; exact b6 i hi, by rw [hl 12 (by omega)]; exact b7⟩
  · obtain ⟨c1, c2, c3, c4⟩ := b3 k hk'
    have b26 := (hW.2.2.1 k hk').2.2.1
    refine ⟨by rw [hn 3 (by omega)]; exact c1, by rw [hn 6 (by omega)]; exact c2, by rw [hl2 _ (by omega)]; exact c3, fun i hi => ?_⟩
    obtain ⟨d1, d2, d3⟩ := c4 i hi
    exact ⟨by rw [hn 8 (by omega)]; exact d1, by rw [hn 9 (by omega)]; exact d2, by rw [hl2 _ (by omega)]; exact d3⟩
  · obtain ⟨c1, c2, c3, c4⟩ := b4 p hp
    exact ⟨by rw [hn 4 (by omega)]; exact c1, by rw [hn 8 (by omega)]; exact c2, by rw [hn 9 (by omega)]; exact c3, by rw [hl2 _ (by omega)]; exact c4⟩
theorem CR.act (h : CR σ I L T N) (f : Fr0 I L I' L') (hs : CSt I' (gsa σ) N') (hN : WN T N') : CR σ I' L' T N' := by
  obtain ⟨⟨h1, h2, h3⟩, h4, h5, h6, h7⟩ := h
  exact ⟨⟨h1, h2, fun k hk' => by rw [(f.1 2 (by unfold KR; omega)).2]; exact h3 k hk'⟩, h4, hN, h6.eq h1 h4 fun x a b => f.1 x (by unfold KR; omega), hs⟩
theorem Th.f0 (h : Th I) (f : Fr0 I L I' L') : Th I' := fun k hk' => by rw [(f.1 421 (by unfold KR; omega)).1]; exact h k hk'
theorem psh_EX (hp : ∀ j, j < a → EX T (P j)) (ha : a ≤ 16) (hN : EX T N) : ∀ j, j < min (a + 1) 16 → EX T (psh a P N j) := fun j hj => by
  unfold psh
  by_cases h6 : a < 16
  · rw [if_pos h6]
    by_cases e : j = a
    · rw [if_pos e]; exact hN
    · rw [if_neg e]; exact hp j (by omega)
  · rw [if_neg h6]
    by_cases e : j = 15
    · rw [if_pos e]; exact hN
    · rw [if_neg e]; exact hp (j + 1) (by omega)
end Acts
