section DA
theorem mF (b s v : Nat) : b * (s * v) = s * (v * b) := by ac_rfl
theorem z31 : FP.Core.zval FP.Core.b64 (FP.Core.val64 4467570830351532032) = ((2 ^ 1043 : Nat) : Int) := by decide +kernel
theorem zn31 : FP.Core.zval FP.Core.b64 (FP.Core.val64 13690942867206307840) = -((2 ^ 1043 : Nat) : Int) := by decide +kernel
theorem n31 : FP.Core.val64 4467570830351532032 ≠ .nan := by decide +kernel
theorem nn31 : FP.Core.val64 13690942867206307840 ≠ .nan := by decide +kernel
theorem nEp : FP.Core.val64 4472406533629990549 ≠ .nan := by decide +kernel
theorem zEp : ((2 ^ 1044 : Nat) : Int) ≤ FP.Core.zval FP.Core.b64 (FP.Core.val64 4472406533629990549) := by decide +kernel
theorem kEp : FP.Core.dkey 4472406533629990549 = 4472406533629990549 := by decide
theorem k31 : FP.Core.dkey 4467570830351532032 = 4467570830351532032 := by decide
theorem kn31 : FP.Core.dkey 13690942867206307840 = -4467570830351532032 := by decide
theorem fEp : ∃ c q, FP.Core.val64 4472406533629990549 = .fin false c q := ⟨_, _, (by decide +kernel : FP.Core.val64 4472406533629990549 = .fin false 4835703278458517 (-82))⟩
theorem rr_nn {s : Bool} {A B : Nat} {e : Int} : FP.Core.roundRatio FP.Core.b64 s A B e ≠ .nan := by
  unfold FP.Core.roundRatio FP.Core.roundAt FP.Core.settle FP.Core.bound
  split
  · exact fun z => by cases z
  · split
    · split <;> exact fun z => by cases z
    · split <;> exact fun z => by cases z
theorem sum_nn {x y : FP.Core.Datum} (hx : ∃ s c q, x = .fin s c q) (hy : ∃ s c q, y = .fin s c q) : FP.Core.round FP.Core.b64 (FP.Core.exactSum x y) ≠ .nan := by
  obtain ⟨s, c, q, rfl⟩ := hx
  obtain ⟨t, d, r, rfl⟩ := hy
  exact rr_nn
theorem neg_fin {x : FP.Core.Datum} (hx : ∃ s c q, x = .fin s c q) : ∃ s c q, FP.Core.negate x = .fin s c q := by
  obtain ⟨s, c, q, rfl⟩ := hx
  exact ⟨!s, c, q, rfl⟩
theorem cmp_gt {x y : UInt64} (hx : FP.Core.val64 x ≠ .nan) (hy : FP.Core.val64 y ≠ .nan) : FP.dcmp x y = some .gt ↔ FP.Core.zval FP.Core.b64 (FP.Core.val64 y) < FP.Core.zval FP.Core.b64 (FP.Core.val64 x) := by
  have e : FP.dcmp x y = some (compare (FP.Core.zval FP.Core.b64 (FP.Core.val64 x)) (FP.Core.zval FP.Core.b64 (FP.Core.val64 y))) := FP.Core.dcmp_zval hx hy
  rw [e, FP.Core.compare_ite]
  generalize FP.Core.zval FP.Core.b64 (FP.Core.val64 x) = a
  generalize FP.Core.zval FP.Core.b64 (FP.Core.val64 y) = b
  constructor
  · intro h
    have h := Option.some.inj h
    split at h
    · cases h
    · split at h
      · cases h
      · omega
  · intro h
    rw [if_neg (by omega), if_neg (by omega)]
theorem key_le {x y : UInt64} (hx : FP.Core.val64 x ≠ .nan) (hy : FP.Core.val64 y ≠ .nan) (h : FP.Core.zval FP.Core.b64 (FP.Core.val64 x) ≤ FP.Core.zval FP.Core.b64 (FP.Core.val64 y)) : FP.Core.dkey x ≤ FP.Core.dkey y := by
  refine Int.not_lt.mp fun q => ?_
  have := (FP.Core.dcmp_gt_key hx hy).mpr q
  have := (cmp_gt hx hy).mp this
  omega
/-- two near one fraction: their difference is small -/
theorem close_lt {x y : UInt64} {A B k k' : Nat} (h : Rr x A B k) (h' : Rr y A B k') (hAB : A ≤ B) (hk : k + k' ≤ 1048576) : FP.Core.zmag FP.Core.b64 (FP.Core.val64 x) ≤ FP.Core.zmag FP.Core.b64 (FP.Core.val64 y) + 2 ^ 1043 := by
  obtain ⟨hB0, _, b1, _⟩ := h
  obtain ⟨_, _, _, b2⟩ := h'
  generalize FP.Core.zmag FP.Core.b64 (FP.Core.val64 x) = zx at b1 ⊢
  generalize FP.Core.zmag FP.Core.b64 (FP.Core.val64 y) = zy at b2 ⊢
  refine Nat.le_of_not_lt fun q => ?_
  have m := Nat.mul_le_mul_right B (show zy + 2 ^ 1043 + 1 ≤ zx from q)
  have hkY : (k + k') * (A * 2 ^ 1074) ≤ 1048576 * (A * 2 ^ 1074) := Nat.mul_le_mul_right _ hk
  have hY : A * 2 ^ 1074 ≤ B * 2 ^ 1074 := Nat.mul_le_mul_right _ hAB
  have eU : B * 2 ^ 1074 = 2147483648 * (2 ^ 1043 * B) := by
    rw [show 2 ^ 1074 = 2 ^ 31 * 2 ^ 1043 by rw [← Nat.pow_add], show (2 : Nat) ^ 31 = 2147483648 by decide]
    exact mF _ _ _
  have p0 : 0 < 2 ^ 1043 * B := Nat.mul_pos (Nat.two_pow_pos _) hB0
  rw [Nat.add_mul] at hkY
  rw [Nat.add_mul, Nat.add_mul, Nat.one_mul] at m
  rw [eU] at hY
  generalize k * (A * 2 ^ 1074) = u1 at *
  generalize k' * (A * 2 ^ 1074) = u2 at *
  generalize A * 2 ^ 1074 = u3 at *
  generalize zx * B = u4 at *
  generalize zy * B = u5 at *
  generalize 2 ^ 1043 * B = u6 at *
  omega
theorem close_ok {x y : UInt64} {A B k k' : Nat} (h : Rr x A B k) (h' : Rr y A B k') (hAB : A ≤ B) (hk : k + k' ≤ 1048576) : ∃ v w, dNN (FP.dsub x y) = some v ∧ dabs v = some w ∧ FP.dcmp w 4472406533629990549 = some .lt := by
  have l1 := close_lt h h' hAB hk
  have l2 := close_lt h' h hAB (by omega)
  have e : FP.Core.val64 (FP.dsub x y) = FP.Core.round FP.Core.b64 (FP.Core.exactSum (FP.Core.val64 x) (FP.Core.negate (FP.Core.val64 y))) := FP.Core.val64_dsub x y
  have nn : FP.Core.val64 (FP.dsub x y) ≠ .nan := by rw [e]; exact sum_nn h.fin (neg_fin h'.fin)
  have up : FP.Core.zval FP.Core.b64 (FP.Core.val64 (FP.dsub x y)) ≤ FP.Core.zval FP.Core.b64 (FP.Core.val64 4467570830351532032) := by
    rw [e]
    refine FP.Core.sum_le FP.Core.good_b64 h.fin (neg_fin h'.fin) (FP.Core.val64_fits x) (FP.Core.negate_fits (FP.Core.val64_fits y)) (FP.Core.val64_fits _) n31 ?_
    rw [FP.Core.zval_negate, h.zv, h'.zv, z31]
    omega
  have lo : FP.Core.zval FP.Core.b64 (FP.Core.val64 13690942867206307840) ≤ FP.Core.zval FP.Core.b64 (FP.Core.val64 (FP.dsub x y)) := by
    rw [e]
    refine FP.Core.sum_ge FP.Core.good_b64 h.fin (neg_fin h'.fin) (FP.Core.val64_fits x) (FP.Core.negate_fits (FP.Core.val64_fits y)) (FP.Core.val64_fits _) nn31 ?_
    rw [FP.Core.zval_negate, h.zv, h'.zv, zn31]
    omega
  have k1 := key_le nn n31 up
  have k2 := key_le nn31 nn lo
  rw [k31] at k1
  rw [kn31] at k2
  refine ⟨FP.dsub x y, FP.dsub x y &&& 0x7fffffffffffffff, dNN_num nn, ?_, ?_⟩
  · have h1 := (FP.Core.notNaN_iff (FP.dsub x y)).mpr nn
    have h2 : FP.dsub x y &&& 0x7fffffffffffffff ≤ 0x7ff0000000000000 := Jvm.Free.Fl.noNaN64_no.mpr h1
    unfold dabs; rw [if_pos h2]
  · refine (FP.Core.dcmp_lt_key (FP.Core.mask_ne_nan nn) nEp).mpr ?_
    rw [FP.Core.mask_key, kEp]
    unfold FP.Core.dkey at k1 k2
    have t := (FP.dsub x y).toNat_lt
    generalize (FP.dsub x y).toNat = v at k1 k2 t ⊢
    split at k1
    · rename_i hv
      rw [if_pos hv] at k2
      omega
    · rename_i hv
      rw [if_neg hv] at k2
      omega
/-- one fraction is no greater than the other, so the doubles aren't by much -/
theorem near_le {x y : UInt64} {A B C D k k' : Nat} (h : Rr x A B k) (h' : Rr y C D k') (hle : A * D ≤ C * B) (hA : A ≤ 8192 * B) (hC : C ≤ 8192 * D) (hk : k + k' ≤ 1024) : FP.Core.zmag FP.Core.b64 (FP.Core.val64 x) ≤ FP.Core.zmag FP.Core.b64 (FP.Core.val64 y) + 2 ^ 1044 := by
  obtain ⟨hB0, _, b1, _⟩ := h
  obtain ⟨hD0, _, _, b2⟩ := h'
  generalize FP.Core.zmag FP.Core.b64 (FP.Core.val64 x) = zx at b1 ⊢
  generalize FP.Core.zmag FP.Core.b64 (FP.Core.val64 y) = zy at b2 ⊢
  refine Nat.le_of_not_lt fun q => ?_
  have m := Nat.mul_le_mul_right (B * D) (show zy + 2 ^ 1044 + 1 ≤ zx from q)
  have m1 := Nat.mul_le_mul_right D b1
  have m2 := Nat.mul_le_mul_right B b2
  rw [Nat.add_mul, mB 9007199254740992 zx B D, mA 9007199254740992 A (2 ^ 1074) D, mA k A (2 ^ 1074) D] at m1
  rw [Nat.add_mul, mC 9007199254740992 zy B D, mA 9007199254740992 C (2 ^ 1074) B, mA k' C (2 ^ 1074) B] at m2
  have hY : A * D * 2 ^ 1074 ≤ C * B * 2 ^ 1074 := Nat.mul_le_mul_right _ hle
  have hK1 : k * (A * D * 2 ^ 1074) ≤ k * (8192 * (B * D * 2 ^ 1074)) := by
    refine Nat.mul_le_mul_left _ ?_
    have := Nat.mul_le_mul_right (D * 2 ^ 1074) hA
    rw [Nat.mul_assoc A D, Nat.mul_assoc B D, ← Nat.mul_assoc 8192 B]; exact this
  have hK2 : k' * (C * B * 2 ^ 1074) ≤ k' * (8192 * (B * D * 2 ^ 1074)) := by
    refine Nat.mul_le_mul_left _ ?_
    have := Nat.mul_le_mul_right (B * 2 ^ 1074) hC
    rw [Nat.mul_assoc C B, Nat.mul_comm B D, Nat.mul_assoc D B, ← Nat.mul_assoc 8192 D]; exact this
  have hkk : (k + k') * (8192 * (B * D * 2 ^ 1074)) ≤ 1024 * (8192 * (B * D * 2 ^ 1074)) := Nat.mul_le_mul_right _ hk
  have eU : B * D * 2 ^ 1074 = 1073741824 * (2 ^ 1044 * (B * D)) := by
    rw [show 2 ^ 1074 = 2 ^ 30 * 2 ^ 1044 by rw [← Nat.pow_add], show (2 : Nat) ^ 30 = 1073741824 by decide]
    exact mF _ _ _
  have p1 : 0 < B * D := Nat.mul_pos hB0 hD0
  have p0 : 0 < 2 ^ 1044 * (B * D) := Nat.mul_pos (Nat.two_pow_pos _) p1
  rw [Nat.add_mul] at hkk
  rw [Nat.add_mul, Nat.add_mul, Nat.one_mul] at m
  generalize k * (A * D * 2 ^ 1074) = u1 at *
  generalize k' * (C * B * 2 ^ 1074) = u2 at *
  generalize A * D * 2 ^ 1074 = u3 at *
  generalize C * B * 2 ^ 1074 = u4 at *
  generalize k * (8192 * (B * D * 2 ^ 1074)) = u5 at *
  generalize k' * (8192 * (B * D * 2 ^ 1074)) = u6 at *
  generalize B * D * 2 ^ 1074 = u7 at *
  generalize zx * (B * D) = u8 at *
  generalize zy * (B * D) = u9 at *
  generalize 2 ^ 1044 * (B * D) = u10 at *
  omega
theorem ep_fin : ∃ s c q, FP.Core.val64 4472406533629990549 = .fin s c q := by
  obtain ⟨c, q, e⟩ := fEp
  exact ⟨false, c, q, e⟩
/-- x isn't greater than y and a billionth -/
theorem gt_add {x y : UInt64} {A B C D k k' : Nat} (h : Rr x A B k) (h' : Rr y C D k') (hle : A * D ≤ C * B) (hA : A ≤ 8192 * B) (hC : C ≤ 8192 * D) (hk : k + k' ≤ 1024) :
    ∃ v, dNN (FP.dadd y 4472406533629990549) = some v ∧ ¬ 0 < Op.cmpValue (FP.dcmp x v) .l := by
  have l1 := near_le h h' hle hA hC hk
  have e : FP.Core.val64 (FP.dadd y 4472406533629990549) = FP.Core.round FP.Core.b64 (FP.Core.exactSum (FP.Core.val64 y) (FP.Core.val64 4472406533629990549)) := FP.Core.val64_dadd y _
  have nn : FP.Core.val64 (FP.dadd y 4472406533629990549) ≠ .nan := by rw [e]; exact sum_nn h'.fin ep_fin
  have lo : FP.Core.zval FP.Core.b64 (FP.Core.val64 x) ≤ FP.Core.zval FP.Core.b64 (FP.Core.val64 (FP.dadd y 4472406533629990549)) := by
    rw [e]
    refine FP.Core.sum_ge FP.Core.good_b64 h'.fin ep_fin (FP.Core.val64_fits y) (FP.Core.val64_fits _) (FP.Core.val64_fits x) h.num ?_
    have := zEp
    rw [h.zv, h'.zv]
    omega
  refine ⟨_, dNN_num nn, fun z => ?_⟩
  have ne : FP.dcmp x (FP.dadd y 4472406533629990549) ≠ some .gt := fun q => by
    have := (cmp_gt h.num nn).mp q
    omega
  have e2 : FP.dcmp x (FP.dadd y 4472406533629990549) = some (compare (FP.Core.zval FP.Core.b64 (FP.Core.val64 x)) (FP.Core.zval FP.Core.b64 (FP.Core.val64 (FP.dadd y 4472406533629990549)))) := FP.Core.dcmp_zval h.num nn
  rw [e2] at z ne
  revert z ne
  cases compare (FP.Core.zval FP.Core.b64 (FP.Core.val64 x)) (FP.Core.zval FP.Core.b64 (FP.Core.val64 (FP.dadd y 4472406533629990549)))
  · intro z _; exact absurd z (by decide)
  · intro z _; exact absurd z (by decide)
  · intro _ ne; exact ne rfl
/-- y isn't less than x without a billionth -/
theorem lt_sub {x y : UInt64} {A B C D k k' : Nat} (h : Rr x A B k) (h' : Rr y C D k') (hle : A * D ≤ C * B) (hA : A ≤ 8192 * B) (hC : C ≤ 8192 * D) (hk : k + k' ≤ 1024) :
    ∃ v, dNN (FP.dsub x 4472406533629990549) = some v ∧ ¬ Op.cmpValue (FP.dcmp y v) .g < 0 := by
  have l1 := near_le h h' hle hA hC hk
  have e : FP.Core.val64 (FP.dsub x 4472406533629990549) = FP.Core.round FP.Core.b64 (FP.Core.exactSum (FP.Core.val64 x) (FP.Core.negate (FP.Core.val64 4472406533629990549))) := FP.Core.val64_dsub x _
  have nn : FP.Core.val64 (FP.dsub x 4472406533629990549) ≠ .nan := by rw [e]; exact sum_nn h.fin (neg_fin ep_fin)
  have up : FP.Core.zval FP.Core.b64 (FP.Core.val64 (FP.dsub x 4472406533629990549)) ≤ FP.Core.zval FP.Core.b64 (FP.Core.val64 y) := by
    rw [e]
    refine FP.Core.sum_le FP.Core.good_b64 h.fin (neg_fin ep_fin) (FP.Core.val64_fits x) (FP.Core.negate_fits (FP.Core.val64_fits _)) (FP.Core.val64_fits y) h'.num ?_
    have := zEp
    rw [FP.Core.zval_negate, h.zv, h'.zv]
    omega
  refine ⟨_, dNN_num nn, fun z => ?_⟩
  have e2 : FP.dcmp y (FP.dsub x 4472406533629990549) = some (compare (FP.Core.zval FP.Core.b64 (FP.Core.val64 y)) (FP.Core.zval FP.Core.b64 (FP.Core.val64 (FP.dsub x 4472406533629990549)))) := FP.Core.dcmp_zval h'.num nn
  have ne : compare (FP.Core.zval FP.Core.b64 (FP.Core.val64 y)) (FP.Core.zval FP.Core.b64 (FP.Core.val64 (FP.dsub x 4472406533629990549))) ≠ .lt := fun q => by
    rw [FP.Core.compare_ite] at q
    split at q
    · omega
    · split at q <;> cases q
  rw [e2] at z
  revert z ne
  cases compare (FP.Core.zval FP.Core.b64 (FP.Core.val64 y)) (FP.Core.zval FP.Core.b64 (FP.Core.val64 (FP.dsub x 4472406533629990549)))
  · intro _ ne; exact ne rfl
  · intro z _; exact absurd z (by decide)
  · intro z _; exact absurd z (by decide)
end DA
