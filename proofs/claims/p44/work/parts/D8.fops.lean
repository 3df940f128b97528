section D8
/-- y is the whole number C -/
def Ex (y : UInt64) (C : Nat) : Prop := (∃ c q, FP.Core.val64 y = .fin false c q) ∧ FP.Core.zmag FP.Core.b64 (FP.Core.val64 y) = C * 2 ^ 1074
theorem Ex.l {C : Nat} (h : C < 9007199254740992) : Ex (FP.l2d (lN C)) C := by
  have hI : (lN C).toInt = (C : Int) := pf_lI (by omega)
  obtain ⟨c, q, e⟩ := FP.Core.l2d_shape (lN C)
  have hz := FP.Core.DInt_zval (FP.Core.l2d_int (a := lN C) (by rw [hI]; omega))
  rw [hI] at hz
  rw [hI, decide_eq_false (by omega)] at e
  have e : FP.Core.val64 (FP.l2d (lN C)) = .fin false c q := e
  have hz : FP.Core.zval FP.Core.b64 (FP.Core.val64 (FP.l2d (lN C))) = (C : Int) * ((2 ^ 1074 : Nat) : Int) := hz
  refine ⟨⟨c, q, e⟩, ?_⟩
  rw [e] at hz ⊢
  have hz : ((FP.Core.zmag FP.Core.b64 (.fin false c q) : Nat) : Int) = (C : Int) * ((2 ^ 1074 : Nat) : Int) := hz
  rw [← Int.natCast_mul] at hz
  exact Int.ofNat.inj hz
theorem Ex.i {C : Nat} (h : C < 2147483648) : Ex (FP.i2d (nI C)) C := by
  have e : FP.i2d (nI C) = FP.l2d (lN C) := by
    show FP.Core.i2d (nI C) = _
    rw [FP.Core.i2d_l2d, nI_l (by omega)]
  rw [e]; exact Ex.l (by omega)
theorem Ex.rr {y : UInt64} {C : Nat} (h : Ex y C) : Rr y C 1 0 := by
  obtain ⟨⟨c, q, e⟩, z⟩ := h
  refine ⟨by omega, ⟨false, c, q, e, fun z => by cases z⟩, ?_, ?_⟩
  · rw [z, Nat.mul_one]; omega
  · rw [z, Nat.mul_one]; omega
theorem fin_up {X Z Y kY : Nat} (b1 : 9007199254740992 * X ≤ 9007199254740992 * Y + kY) (b2 : 9007199254740992 * Y ≤ 9007199254740992 * X + kY) (hk : kY ≤ 1048576 * Y) (r1 : 9007199254740992 * Z ≤ 9007199254740993 * X) (r2 : 9007199254740991 * X ≤ 9007199254740992 * Z) :
    9007199254740992 * Z ≤ 9007199254740992 * Y + (kY + 2 * Y) ∧ 9007199254740992 * Y ≤ 9007199254740992 * Z + (kY + 2 * Y) := by omega
theorem Rr.lohi {x : UInt64} {A B k : Nat} (h : Rr x A B k) (hA0 : 0 < A) (hA : A ≤ 2 ^ 64) (hB : B ≤ 2 ^ 100) (hk : k ≤ 1048576) : 2 ^ 900 ≤ FP.Core.zmag FP.Core.b64 (FP.Core.val64 x) ∧ FP.Core.zmag FP.Core.b64 (FP.Core.val64 x) < 2 ^ 1150 := by
  obtain ⟨hB0, _, b1, b2⟩ := h
  generalize FP.Core.zmag FP.Core.b64 (FP.Core.val64 x) = z at b1 b2 ⊢
  have hkY : k * (A * 2 ^ 1074) ≤ 1048576 * (A * 2 ^ 1074) := Nat.mul_le_mul_right _ hk
  have y1 : 1 * 2 ^ 1074 ≤ A * 2 ^ 1074 := Nat.mul_le_mul_right _ hA0
  have y2 : A * 2 ^ 1074 ≤ 2 ^ 64 * 2 ^ 1074 := Nat.mul_le_mul_right _ hA
  have zB1 : z * 1 ≤ z * B := Nat.mul_le_mul_left _ hB0
  have zB2 : z * B ≤ z * 2 ^ 100 := Nat.mul_le_mul_left _ hB
  generalize k * (A * 2 ^ 1074) = kY at hkY b1 b2
  generalize A * 2 ^ 1074 = Y at hkY b1 b2 y1 y2
  generalize z * B = w at b1 b2 zB1 zB2
  constructor
  · refine Nat.le_of_not_lt fun q => ?_
    have q2 : z * 2 ^ 100 < 2 ^ 900 * 2 ^ 100 := Nat.mul_lt_mul_of_pos_right q (Nat.two_pow_pos _)
    rw [← Nat.pow_add] at q2
    have e1 : 2 ^ 1074 = 2 ^ (900 + 100) * 2 ^ 74 := by rw [← Nat.pow_add]
    rw [e1] at y1
    generalize 2 ^ (900 + 100) = V at q2 y1
    generalize z * 2 ^ 100 = z2 at zB2 q2
    have e2 : V * 2 ^ 74 = 18889465931478580854784 * V := by rw [Nat.mul_comm]
    omega
  · have e3 : 2 ^ 1150 = 2 ^ 1074 * 2 ^ 76 := by rw [← Nat.pow_add]
    rw [e3]
    have e4 : 2 ^ 64 * 2 ^ 1074 = 18446744073709551616 * 2 ^ 1074 := congrArg (fun v => v * 2 ^ 1074) (show (2 : Nat) ^ 64 = 18446744073709551616 by decide)
    have e5 : 2 ^ 1074 * 2 ^ 76 = 75557863725914323419136 * 2 ^ 1074 := (Nat.mul_comm _ _).trans (congrArg (fun v => v * 2 ^ 1074) (show (2 : Nat) ^ 76 = 75557863725914323419136 by decide))
    rw [e5]
    rw [e4] at y2
    have p := Nat.two_pow_pos 1074
    generalize 2 ^ 1074 = U at y1 y2 p ⊢
    omega
theorem Rr.zero {x : UInt64} {A B k : Nat} (h : Rr x A B k) (hk : k ≤ 1048576) : FP.Core.zmag FP.Core.b64 (FP.Core.val64 x) = 0 ↔ A = 0 := by
  obtain ⟨hB0, _, b1, b2⟩ := h
  generalize FP.Core.zmag FP.Core.b64 (FP.Core.val64 x) = z at b1 b2 ⊢
  have hkY : k * (A * 2 ^ 1074) ≤ 1048576 * (A * 2 ^ 1074) := Nat.mul_le_mul_right _ hk
  have p := Nat.two_pow_pos 1074
  constructor
  · intro q
    rw [q, Nat.zero_mul] at b2
    apply Classical.byContradiction
    intro hne
    have : 0 < A * 2 ^ 1074 := Nat.mul_pos (Nat.pos_of_ne_zero hne) p
    omega
  · intro q
    rw [q, Nat.zero_mul, Nat.mul_zero, Nat.mul_zero] at b1
    have : z * B = 0 := by omega
    rcases Nat.mul_eq_zero.mp this with h | h
    · exact h
    · omega
theorem iu0 (q : Int) : FP.Core.inUnits 0 q FP.Core.b64.qmin = 0 := by unfold FP.Core.inUnits; exact Nat.zero_mul _
/-- a FP.Core.quotient by a whole number -/
theorem Rr.div {x y : UInt64} {A B C k : Nat} (h : Rr x A B k) (hy : Ex y C) (hC : 0 < C) (hA : A ≤ 2 ^ 64) (hB : B ≤ 2 ^ 100) (hk : k ≤ 1048576) (hC2 : C ≤ 2 ^ 64) : Rr (FP.ddiv x y) A (B * C) (k + 2) := by
  have lh := fun hA0 => h.lohi hA0 hA hB hk
  have zz := h.zero hk
  have fx := FP.Core.val64_fits x
  obtain ⟨hB0, ⟨s, c, q, ex, hs⟩, b1, b2⟩ := h
  obtain ⟨⟨d, r, ey⟩, zy⟩ := hy
  have e : FP.Core.val64 (FP.ddiv x y) = FP.Core.quotient FP.Core.b64 (FP.Core.val64 x) (FP.Core.val64 y) := FP.Core.val64_ddiv x y
  rw [ex] at lh zz b1 b2 fx
  rw [ey] at zy
  have zy : FP.Core.inUnits d r FP.Core.b64.qmin = C * 2 ^ 1074 := zy
  have U0 := Nat.two_pow_pos 1074
  have hd : d ≠ 0 := fun z => by
    rw [z, iu0] at zy
    have := Nat.mul_pos hC U0
    omega
  have e : FP.Core.val64 (FP.ddiv x y) = FP.Core.roundRatio FP.Core.b64 (s != false) c d (q - r) := by
    rw [e, ex, ey]
    show (if d = 0 then _ else _) = _
    rw [if_neg hd]
  have zX : FP.Core.zmag FP.Core.b64 (.fin s c q) = FP.Core.inUnits c q FP.Core.b64.qmin := rfl
  rw [zX] at lh zz b1 b2
  by_cases hc : c = 0
  · have hA0 : A = 0 := zz.mp (by rw [hc, iu0])
    have e2 : FP.Core.val64 (FP.ddiv x y) = .fin (s != false) 0 FP.Core.b64.qmin := by
      rw [e, hc]
      unfold FP.Core.roundRatio
      rw [if_pos rfl]
    refine ⟨Nat.mul_pos hB0 hC, ⟨_, _, _, e2, fun _ => rfl⟩, ?_, ?_⟩
    · rw [e2, hA0]
      show 9007199254740992 * (FP.Core.inUnits 0 FP.Core.b64.qmin FP.Core.b64.qmin * (B * C)) ≤ _
      rw [iu0, Nat.zero_mul]; omega
    · rw [hA0, Nat.zero_mul]; omega
  · have hs' : s = false := by
      cases s
      · rfl
      · exact absurd (hs rfl) hc
    subst hs'
    have hA0 : 0 < A := by
      refine Nat.pos_of_ne_zero fun z => ?_
      have := zz.mpr z
      unfold FP.Core.inUnits at this
      rcases Nat.mul_eq_zero.mp this with h | h
      · exact hc h
      · have := Nat.two_pow_pos (q - FP.Core.b64.qmin).toNat; omega
    obtain ⟨lo, hi⟩ := lh hA0
    have qm := fq_min
    have c53 : c < 2 ^ 53 := fx.1
    have q1 : FP.Core.b64.qmin ≤ q := fx.2.1
    obtain ⟨X, hX⟩ : ∃ X, X = FP.Core.inUnits c q FP.Core.b64.qmin := ⟨_, rfl⟩
    rw [← hX] at lo hi b1 b2
    obtain ⟨n, hn⟩ : ∃ n, n = (q - FP.Core.b64.qmin).toNat := ⟨_, rfl⟩
    have hX : X = c * 2 ^ n := by rw [hX, hn]; rfl
    have n1 : 848 ≤ n := by
      have h1 : X < 2 ^ 53 * 2 ^ n := by rw [hX]; exact Nat.mul_lt_mul_of_pos_right c53 (Nat.two_pow_pos _)
      rw [← Nat.pow_add] at h1
      have := (Nat.pow_lt_pow_iff_right (a := 2) (by omega)).mp (Nat.lt_of_le_of_lt lo h1)
      omega
    have fy := FP.Core.val64_fits y
    rw [ey] at fy
    have r1 : FP.Core.b64.qmin ≤ r := fy.2.1
    obtain ⟨l, hl⟩ : ∃ l, l = (r - FP.Core.b64.qmin).toNat := ⟨_, rfl⟩
    have hY : d * 2 ^ l = C * 2 ^ 1074 := by rw [hl]; exact zy
    have l1 : l ≤ 1138 := by
      have h1 : 1 * 2 ^ l ≤ d * 2 ^ l := Nat.mul_le_mul_right _ (Nat.pos_of_ne_zero hd)
      have h2 : C * 2 ^ 1074 ≤ 2 ^ 64 * 2 ^ 1074 := Nat.mul_le_mul_right _ hC2
      rw [← Nat.pow_add] at h2
      rw [hY, Nat.one_mul] at h1
      have := (Nat.pow_le_pow_iff_right (a := 2) (by omega)).mp (Nat.le_trans h1 h2)
      omega
    obtain ⟨g, hg⟩ : ∃ g, g = (q - r - FP.Core.b64.qmin).toNat := ⟨_, rfl⟩
    have gl : g + l = n + 1074 := by omega
    have key : c * 2 ^ g * 2 ^ l = X * 2 ^ 1074 := by rw [Nat.mul_assoc, ← Nat.pow_add, gl, Nat.pow_add, ← Nat.mul_assoc, ← hX]
    have pl := Nat.two_pow_pos l
    have hn' : 2 ^ 52 * d ≤ c * 2 ^ (q - r - FP.Core.b64.qmin).toNat := by
      rw [← hg]
      refine Nat.le_of_mul_le_mul_right (c := 2 ^ l) ?_ pl
      rw [key, Nat.mul_assoc, hY, ← Nat.mul_assoc]
      refine Nat.mul_le_mul_right _ ?_
      have h1 : 2 ^ 52 * C ≤ 2 ^ 52 * 2 ^ 64 := Nat.mul_le_mul_left _ hC2
      rw [← Nat.pow_add] at h1
      have h2 : 2 ^ (52 + 64) ≤ 2 ^ 900 := Nat.pow_le_pow_right (by omega) (by omega)
      omega
    have hlt : c * 2 ^ (q - r - FP.Core.b64.qmin).toNat < d * 2 ^ 1200 := by
      rw [← hg]
      refine Nat.lt_of_mul_lt_mul_right (a := 2 ^ l) ?_
      rw [key, Nat.mul_right_comm, hY, Nat.mul_right_comm]
      refine Nat.mul_lt_mul_of_pos_right ?_ U0
      have h1 : 1 * 2 ^ 1200 ≤ C * 2 ^ 1200 := Nat.mul_le_mul_right _ hC
      have h2 : 2 ^ 1150 ≤ 2 ^ 1200 := Nat.pow_le_pow_right (by omega) (by omega)
      omega
    obtain ⟨c', q', er, s1, s2⟩ := fr_rel (s := (false != false)) (e := q - r) (Nat.pos_of_ne_zero hc) (Nat.pos_of_ne_zero hd) (by omega) hn' hlt
    rw [← hg] at s1 s2
    have e2 : FP.Core.val64 (FP.ddiv x y) = .fin (false != false) c' q' := by rw [e, er]
    obtain ⟨z, hz⟩ : ∃ z, z = FP.Core.inUnits c' q' FP.Core.b64.qmin := ⟨_, rfl⟩
    rw [← hz] at s1 s2
    have t1 : 9007199254740992 * (z * C) ≤ 9007199254740993 * X := by
      refine Nat.le_of_mul_le_mul_right (c := 2 ^ 1074) ?_ U0
      have := Nat.mul_le_mul_right (2 ^ l) s1
      rw [Nat.mul_assoc, Nat.mul_assoc, hY, Nat.mul_assoc 9007199254740993, key] at this
      rw [Nat.mul_assoc, Nat.mul_assoc, Nat.mul_assoc]; exact this
    have t2 : 9007199254740991 * X ≤ 9007199254740992 * (z * C) := by
      refine Nat.le_of_mul_le_mul_right (c := 2 ^ 1074) ?_ U0
      have := Nat.mul_le_mul_right (2 ^ l) s2
      rw [Nat.mul_assoc, key, Nat.mul_assoc, Nat.mul_assoc, hY] at this
      rw [Nat.mul_assoc, Nat.mul_assoc, Nat.mul_assoc]; exact this
    have t3 : 9007199254740992 * (z * (B * C)) ≤ 9007199254740993 * (X * B) := by
      have := Nat.mul_le_mul_right B t1
      rw [Nat.mul_assoc, Nat.mul_assoc, Nat.mul_assoc, Nat.mul_comm C B] at this; exact this
    have t4 : 9007199254740991 * (X * B) ≤ 9007199254740992 * (z * (B * C)) := by
      have := Nat.mul_le_mul_right B t2
      rw [Nat.mul_assoc, Nat.mul_assoc, Nat.mul_assoc, Nat.mul_comm C B] at this; exact this
    have hkY : k * (A * 2 ^ 1074) ≤ 1048576 * (A * 2 ^ 1074) := Nat.mul_le_mul_right _ hk
    obtain ⟨u1, u2⟩ := fin_up b1 b2 hkY t3 t4
    have zm : FP.Core.zmag FP.Core.b64 (FP.Core.val64 (FP.ddiv x y)) = z := by rw [e2, hz]; rfl
    refine ⟨Nat.mul_pos hB0 hC, ⟨_, _, _, e2, fun z => by cases z⟩, ?_, ?_⟩
    · rw [zm, Nat.add_mul]; exact u1
    · rw [zm, Nat.add_mul]; exact u2
end D8
