/-! DOUBLES near fractions -/
section D7
theorem fq_min : FP.Core.b64.qmin = -1074 := by decide
theorem fq_max : FP.Core.b64.qmax = 971 := by decide
theorem fp_53 : FP.Core.b64.p = 53 := rfl
/-- the rounded fraction is near it -/
theorem fr_rel {s : Bool} {A B : Nat} {e : Int} (hA : 0 < A) (hB : 0 < B) (he : FP.Core.b64.qmin ≤ e) (hn : 2 ^ 52 * B ≤ A * 2 ^ (e - FP.Core.b64.qmin).toNat) (hlt : A * 2 ^ (e - FP.Core.b64.qmin).toNat < B * 2 ^ 1200) :
    ∃ c q, FP.Core.roundRatio FP.Core.b64 s A B e = .fin s c q ∧ 9007199254740992 * (FP.Core.inUnits c q FP.Core.b64.qmin * B) ≤ 9007199254740993 * (A * 2 ^ (e - FP.Core.b64.qmin).toNat) ∧ 9007199254740991 * (A * 2 ^ (e - FP.Core.b64.qmin).toNat) ≤ 9007199254740992 * (FP.Core.inUnits c q FP.Core.b64.qmin * B) := by
  have qm := fq_min
  have qM := fq_max
  have g1 := FP.Core.quantum_ge FP.Core.b64 A B e
  have g2 := FP.Core.nearest_units_le (f := FP.Core.b64) hA hB e
  have g3 := FP.Core.quantum_not_below (f := FP.Core.b64) hA hB e
  have g4 : FP.Core.quantum FP.Core.b64 A B e ≤ 74 := by
    have hb : FP.Core.Below A B (((1200 : Nat) : Int) - ((e - FP.Core.b64.qmin).toNat : Nat)) := (FP.Core.below_iff A B 1200 _).mpr hlt
    have := FP.Core.lt_of_below (FP.Core.leading_spec hA hB).1 hb
    unfold FP.Core.quantum
    rw [fp_53]
    omega
  obtain ⟨q0, hq0⟩ : ∃ q0, q0 = FP.Core.quantum FP.Core.b64 A B e := ⟨_, rfl⟩
  rw [← hq0] at g1 g2 g3 g4
  have hD := FP.Core.unitsDen_pos hB e q0
  have half : 4503599627370496 * FP.Core.unitsDen B e q0 ≤ FP.Core.unitsNum A e q0 := by
    rcases g3 with h | h
    · rw [h]
      unfold FP.Core.unitsNum FP.Core.unitsDen
      rw [show (FP.Core.b64.qmin - e).toNat = 0 by omega, Nat.pow_zero, Nat.mul_one]
      exact hn
    · have u := FP.Core.units_below A B e q0 52
      rw [show ((FP.Core.b64.p : Nat) : Int) - 1 = ((52 : Nat) : Int) by rw [fp_53]; rfl, ← u] at h
      exact Nat.le_of_not_lt h
  obtain ⟨s1, s2, _⟩ := FP.Core.nearest_spec (FP.Core.unitsNum A e q0) (FP.Core.unitsDen B e q0) hD
  obtain ⟨m, hm⟩ : ∃ m, m = FP.Core.nearest (FP.Core.unitsNum A e q0) (FP.Core.unitsDen B e q0) := ⟨_, rfl⟩
  rw [← hm] at s1 s2 g2
  have er : FP.Core.roundRatio FP.Core.b64 s A B e = FP.Core.settle FP.Core.b64 s m q0 := by
    unfold FP.Core.roundRatio FP.Core.roundAt
    rw [if_neg (by omega), ← hq0, ← hm]
  have hset : ∃ c q, FP.Core.settle FP.Core.b64 s m q0 = .fin s c q := by
    unfold FP.Core.settle FP.Core.bound
    split
    · rw [if_pos (by omega)]; exact ⟨_, _, rfl⟩
    · rw [if_pos (by omega)]; exact ⟨_, _, rfl⟩
  obtain ⟨c, q, hcq⟩ := hset
  have hv := (FP.Core.settle_value FP.Core.good_b64 (e0 := FP.Core.b64.qmin) g2 hcq g1).2
  have hW : ∃ W, A * 2 ^ (e - FP.Core.b64.qmin).toNat = FP.Core.unitsNum A e q0 * W ∧ FP.Core.inUnits m q0 FP.Core.b64.qmin * B = m * FP.Core.unitsDen B e q0 * W := by
    unfold FP.Core.unitsNum FP.Core.unitsDen FP.Core.inUnits
    by_cases h : q0 ≤ e
    · refine ⟨2 ^ (q0 - FP.Core.b64.qmin).toNat, ?_, ?_⟩
      · rw [Nat.mul_assoc, ← Nat.pow_add, show (e - q0).toNat + (q0 - FP.Core.b64.qmin).toNat = (e - FP.Core.b64.qmin).toNat by omega]
      · rw [show (q0 - e).toNat = 0 by omega, Nat.pow_zero, Nat.mul_one]; ac_rfl
    · refine ⟨2 ^ (e - FP.Core.b64.qmin).toNat, ?_, ?_⟩
      · rw [show (e - q0).toNat = 0 by omega, Nat.pow_zero, Nat.mul_one]
      · rw [show (q0 - FP.Core.b64.qmin).toNat = (q0 - e).toNat + (e - FP.Core.b64.qmin).toNat by omega, Nat.pow_add]; ac_rfl
  obtain ⟨W, w1, w2⟩ := hW
  refine ⟨c, q, by rw [er, hcq], ?_, ?_⟩
  · rw [hv, w1, w2, show 9007199254740992 * (m * FP.Core.unitsDen B e q0 * W) = 9007199254740992 * (m * FP.Core.unitsDen B e q0) * W from (Nat.mul_assoc _ _ _).symm, show 9007199254740993 * (FP.Core.unitsNum A e q0 * W) = 9007199254740993 * FP.Core.unitsNum A e q0 * W from (Nat.mul_assoc _ _ _).symm]
    refine Nat.mul_le_mul_right W ?_
    have e2 : 2 * m * FP.Core.unitsDen B e q0 = 2 * (m * FP.Core.unitsDen B e q0) := Nat.mul_assoc _ _ _
    rw [e2] at s2
    generalize m * FP.Core.unitsDen B e q0 = x at s2 ⊢
    omega
  · rw [hv, w1, w2, show 9007199254740992 * (m * FP.Core.unitsDen B e q0 * W) = 9007199254740992 * (m * FP.Core.unitsDen B e q0) * W from (Nat.mul_assoc _ _ _).symm, show 9007199254740991 * (FP.Core.unitsNum A e q0 * W) = 9007199254740991 * FP.Core.unitsNum A e q0 * W from (Nat.mul_assoc _ _ _).symm]
    refine Nat.mul_le_mul_right W ?_
    have e1 : (2 * m + 1) * FP.Core.unitsDen B e q0 = 2 * (m * FP.Core.unitsDen B e q0) + FP.Core.unitsDen B e q0 := by rw [Nat.add_mul, Nat.one_mul, Nat.mul_assoc]
    rw [e1] at s1
    generalize m * FP.Core.unitsDen B e q0 = x at s1 ⊢
    omega
/-- x is near A / B: so many parts of two to the 53rd -/
def Rr (x : UInt64) (A B k : Nat) : Prop := 0 < B ∧ (∃ s c q, FP.Core.val64 x = .fin s c q ∧ (s = true → c = 0)) ∧
  9007199254740992 * (FP.Core.zmag FP.Core.b64 (FP.Core.val64 x) * B) ≤ 9007199254740992 * (A * 2 ^ 1074) + k * (A * 2 ^ 1074) ∧ 9007199254740992 * (A * 2 ^ 1074) ≤ 9007199254740992 * (FP.Core.zmag FP.Core.b64 (FP.Core.val64 x) * B) + k * (A * 2 ^ 1074)
theorem Rr.fin {x : UInt64} {A B k : Nat} (h : Rr x A B k) : ∃ s c q, FP.Core.val64 x = .fin s c q := by
  obtain ⟨_, ⟨s, c, q, e, _⟩, _⟩ := h
  exact ⟨s, c, q, e⟩
theorem Rr.num {x : UInt64} {A B k : Nat} (h : Rr x A B k) : FP.Core.val64 x ≠ .nan := by
  obtain ⟨s, c, q, e⟩ := h.fin
  rw [e]; exact fun z => by cases z
theorem dNN_num {x : UInt64} (h : FP.Core.val64 x ≠ .nan) : dNN x = some x := by
  have h1 := (FP.Core.notNaN_iff x).mpr h
  have h2 : x &&& 0x7fffffffffffffff ≤ 0x7ff0000000000000 := Jvm.Free.Fl.noNaN64_no.mpr h1
  unfold dNN; rw [if_pos h2]
theorem Rr.zv {x : UInt64} {A B k : Nat} (h : Rr x A B k) : FP.Core.zval FP.Core.b64 (FP.Core.val64 x) = (FP.Core.zmag FP.Core.b64 (FP.Core.val64 x) : Int) := by
  obtain ⟨_, ⟨s, c, q, e, hs⟩, _⟩ := h
  rw [e]
  show FP.Core.signed s (FP.Core.inUnits c q FP.Core.b64.qmin) = ((FP.Core.inUnits c q FP.Core.b64.qmin : Nat) : Int)
  cases s
  · rfl
  · rw [hs rfl]
    unfold FP.Core.inUnits FP.Core.signed
    rw [Nat.zero_mul]; rfl
end D7
