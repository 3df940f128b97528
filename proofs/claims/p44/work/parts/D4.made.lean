/-! FACTS MADE KNOWN ONE BY ONE -/
section D4
variable {T N M : Nat → Nat} {k f how so fs x : Nat} {wn : Bool}
/-- what holds when the facts of fs below j are made known so -/
def MD (T N M : Nat → Nat) (fs so j : Nat) : Prop :=
  (∀ w, w < 256 → lft T M w = (lft T N w && allB (fun g => !fs.testBit g || (w.testBit g == so.testBit g)) j)) ∧ (∀ g, j ≤ g → g < 8 → kn M g = kn N g) ∧ (∀ k, it M k 0 = it N k 0) ∧ M 16 = N 16 ∧ M 18 = N 18
theorem MD.z : MD T N N fs so 0 := ⟨fun w _ => by show _ = (_ && true); rw [Bool.and_true], fun _ _ _ => rfl, fun _ => rfl, rfl, rfl⟩
theorem MD.skip {j : Nat} (h : MD T N M fs so j) (hb : fs.testBit j = false) : MD T N M fs so (j + 1) := by
  obtain ⟨h1, h2, h3⟩ := h
  refine ⟨fun w hw => ?_, fun g a b => h2 g (by omega) b, h3⟩
  rw [h1 w hw]
  show _ = (_ && (allB _ j && (!fs.testBit j || _)))
  rw [hb]
  simp
theorem MD.make {j b : Nat} (h : MD T N M fs so j) (hW : WT T) (hj : j < T 1) (hb : fs.testBit j = true) (hk : kn M j = false) (hh : how = 1 ∨ how = 4) (hb2 : b = if so.testBit j = true then 1 else 0) : MD T N (mkn M j how b) fs so (j + 1) := by
  have w1 := hW.1.2.1
  obtain ⟨h1, h2, h3, h4, h5⟩ := h
  have hm : MK T M j how b := ⟨hj, w1, hk, hh, by rw [hb2]; split <;> omega⟩
  refine ⟨fun w hw => ?_, fun g a c => ?_, fun k => by rw [mkn_it (by omega)]; exact h3 k, by rw [mkn_hi (by omega) (by omega)]; exact h4, by rw [mkn_hi (by omega) (by omega)]; exact h5⟩
  · rw [mk_lft hm, h1 w hw, ← bN_so hm.2.2.2.2]
    show _ = (_ && (allB _ j && (!fs.testBit j || _)))
    rw [hb, hb2, dif1, Bool.and_assoc]; rfl
  · rw [mk_kn hm c, if_neg (by omega)]; exact h2 g (by omega) c
/-- the worlds of a proof are left, whatever of it is made known -/
theorem MD.in {j w : Nat} (h : MD T N M fs so j) (hw : w < 256) (hl : lft T N w = true) (he : w &&& fs = so) : lft T M w = true := by
  rw [h.1 w hw, hl, Bool.true_and]
  refine allB_iff.mpr fun g _ => ?_
  have := congrArg (fun z => z.testBit g) he
  simp only [Nat.testBit_and] at this
  cases q : fs.testBit g
  · rfl
  · rw [q, Bool.and_true] at this
    rw [this]; simp
theorem MD.inr {j w : Nat} (h : MD T N M fs so j) (hw : w < 256) (hl : lft T N w = true) (he : w &&& rmv fs j = rmv so j) : lft T M w = true := by
  rw [h.1 w hw, hl, Bool.true_and]
  refine allB_iff.mpr fun g hg => ?_
  have := congrArg (fun z => z.testBit g) he
  simp only [Nat.testBit_and, rmv_bit] at this
  rw [decide_eq_false (show ¬ g = j by omega)] at this
  cases q : fs.testBit g
  · rfl
  · rw [q] at this
    simp at this
    rw [this]; simp
theorem MD.out {w j : Nat} (h : MD T N M fs so j) (hf : ∀ g, fs.testBit g = true → g < j) (hs : sb so fs) (hw : w < 256) (hl : lft T M w = true) : lft T N w = true ∧ w &&& fs = so := by
  rw [h.1 w hw, Bool.and_eq_true] at hl
  refine ⟨hl.1, ?_⟩
  apply Nat.eq_of_testBit_eq
  intro g
  rw [Nat.testBit_and]
  by_cases hg : g < j
  · have := allB_iff.mp hl.2 g hg
    cases q : fs.testBit g
    · rw [Bool.and_false]
      cases q2 : so.testBit g
      · rfl
      · rw [hs g q2] at q; cases q
    · rw [q] at this
      rw [Bool.and_true]
      simpa using this
  · have e1 : fs.testBit g = false := by
      cases q : fs.testBit g
      · rfl
      · exact absurd (hf g q) hg
    cases q2 : so.testBit g
    · rw [e1, Bool.and_false]
    · rw [hs g q2] at e1; cases e1
/-- m steps back all was as N -/
def HB (a : Nat) (P : Nat → Nat → Nat) (M N : Nat → Nat) (m : Nat) : Prop := (m = 0 → M = N) ∧ (m ≠ 0 → m ≤ a ∧ P (a - m) = N)
theorem HB.at {a m : Nat} {P : Nat → Nat → Nat} (h : HB a P M N m) : (if m = 0 then M else P (a - m)) = N := by
  by_cases e : m = 0
  · rw [if_pos e]; exact h.1 e
  · rw [if_neg e]; exact (h.2 e).2
theorem HB.le {a m : Nat} {P : Nat → Nat → Nat} (h : HB a P M N m) : m ≤ a := by
  by_cases e : m = 0
  · omega
  · exact (h.2 e).1
theorem HB_psh {a m : Nat} {P : Nat → Nat → Nat} {M' : Nat → Nat} (h : HB a P M N m) (ha : a ≤ 16) (hm : m < 16) : HB (min (a + 1) 16) (psh a P M) M' N (m + 1) := by
  refine ⟨fun q => by omega, fun _ => ⟨by have := h.le; omega, ?_⟩⟩
  unfold psh
  by_cases e : m = 0
  · rw [← h.1 e]
    by_cases h6 : a < 16
    · rw [if_pos h6, if_pos (by omega)]
    · rw [if_neg h6, if_pos (by omega)]
  · obtain ⟨q1, q2⟩ := h.2 e
    by_cases h6 : a < 16
    · rw [if_pos h6, if_neg (by omega), show min (a + 1) 16 - (m + 1) = a - m by omega]; exact q2
    · rw [if_neg h6, if_neg (by omega), show min (a + 1) 16 - (m + 1) + 1 = a - m by omega]; exact q2
end D4
