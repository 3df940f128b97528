section D9
theorem mA (p a u b : Nat) : p * (a * u) * b = p * (a * b * u) := by ac_rfl
theorem mB (p z b c : Nat) : p * (z * b) * c = p * (z * (b * c)) := by ac_rfl
theorem mC (p z b c : Nat) : p * (z * c) * b = p * (z * (b * c)) := by ac_rfl
theorem mD (p x c b : Nat) : p * (x * c) * b = p * (x * b * c) := by ac_rfl
theorem mE (p z b c : Nat) : p * (z * b) * c = p * (z * c) * b := by ac_rfl
/-- a product with a whole number -/
theorem Rr.mul {x y : UInt64} {A B C k : Nat} (h : Rr x A B k) (hy : Ex y C) (hA : A ≤ 2 ^ 64) (hB : B ≤ 2 ^ 100) (hk : k ≤ 1048576) (hC2 : C ≤ 2 ^ 40) : Rr (FP.dmul x y) (A * C) B (k + 2) := by
  have lh := fun hA0 => h.lohi hA0 hA hB hk
  have zz := h.zero hk
  have fx := FP.Core.val64_fits x
  obtain ⟨hB0, ⟨s, c, q, ex, hs⟩, b1, b2⟩ := h
  obtain ⟨⟨d, r, ey⟩, zy⟩ := hy
  have e : FP.Core.val64 (FP.dmul x y) = FP.Core.round FP.Core.b64 (FP.Core.exactProduct (FP.Core.val64 x) (FP.Core.val64 y)) := FP.Core.val64_dmul x y
  rw [ex] at lh zz b1 b2 fx
  rw [ey] at zy
  have zy : FP.Core.inUnits d r FP.Core.b64.qmin = C * 2 ^ 1074 := zy
  have U0 := Nat.two_pow_pos 1074
  have e : FP.Core.val64 (FP.dmul x y) = FP.Core.roundRatio FP.Core.b64 (s != false) (c * d) 1 (q + r) := by
    rw [e, ex, ey]; rfl
  have zX : FP.Core.zmag FP.Core.b64 (.fin s c q) = FP.Core.inUnits c q FP.Core.b64.qmin := rfl
  rw [zX] at lh zz b1 b2
  by_cases hc : c * d = 0
  · have hAC : A * C = 0 := by
      rcases Nat.mul_eq_zero.mp hc with h | h
      · rw [zz.mp (by rw [h, iu0]), Nat.zero_mul]
      · rw [h, iu0] at zy
        rcases Nat.mul_eq_zero.mp zy.symm with h | h
        · rw [h, Nat.mul_zero]
        · omega
    have e2 : FP.Core.val64 (FP.dmul x y) = .fin (s != false) 0 FP.Core.b64.qmin := by
      rw [e, hc]
      unfold FP.Core.roundRatio
      rw [if_pos rfl]
    refine ⟨hB0, ⟨_, _, _, e2, fun _ => rfl⟩, ?_, ?_⟩
    · rw [e2, hAC]
      show 9007199254740992 * (FP.Core.inUnits 0 FP.Core.b64.qmin FP.Core.b64.qmin * B) ≤ _
      rw [iu0, Nat.zero_mul]; omega
    · rw [hAC, Nat.zero_mul]; omega
  · have hc0 : c ≠ 0 := fun z => hc (by rw [z, Nat.zero_mul])
    have hd : d ≠ 0 := fun z => hc (by rw [z, Nat.mul_zero])
    have hC : 0 < C := by
      refine Nat.pos_of_ne_zero fun z => ?_
      rw [z, Nat.zero_mul] at zy
      unfold FP.Core.inUnits at zy
      rcases Nat.mul_eq_zero.mp zy with h | h
      · exact hd h
      · have := Nat.two_pow_pos (r - FP.Core.b64.qmin).toNat; omega
    have hs' : s = false := by
      cases s
      · rfl
      · exact absurd (hs rfl) hc0
    subst hs'
    have hA0 : 0 < A := by
      refine Nat.pos_of_ne_zero fun z => ?_
      have := zz.mpr z
      unfold FP.Core.inUnits at this
      rcases Nat.mul_eq_zero.mp this with h | h
      · exact hc0 h
      · have := Nat.two_pow_pos (q - FP.Core.b64.qmin).toNat; omega
    obtain ⟨lo, hi⟩ := lh hA0
    have qm := fq_min
    have c53 : c < 2 ^ 53 := fx.1
    have q1 : FP.Core.b64.qmin ≤ q := fx.2.1
    obtain ⟨X, hX⟩ : ∃ X, X = FP.Core.inUnits c q FP.Core.b64.qmin := ⟨_, rfl⟩
    rw [← hX] at lo hi b1 b2
    obtain ⟨n, hn⟩ : ∃ n, n = (q - FP.Core.b64.qmin).toNat := ⟨_, rfl⟩
    have hX : X = c * 2 ^ n := by rw [hX, hn]; rfl
    have n1 : 848 ≤ n := by
      have h1 : X < 2 ^ 53 * 2 ^ n := by rw [hX]; exact Nat.mul_lt_mul_of_pos_right c53 (Nat.two_pow_pos _)
      rw [← Nat.pow_add] at h1
      have := (Nat.pow_lt_pow_iff_right (a := 2) (by omega)).mp (Nat.lt_of_le_of_lt lo h1)
      omega
    have fy := FP.Core.val64_fits y
    rw [ey] at fy
    have r1 : FP.Core.b64.qmin ≤ r := fy.2.1
    have d53 : d < 2 ^ 53 := fy.1
    obtain ⟨l, hl⟩ : ∃ l, l = (r - FP.Core.b64.qmin).toNat := ⟨_, rfl⟩
    have hY : d * 2 ^ l = C * 2 ^ 1074 := by rw [hl]; exact zy
    have l1 : 1022 ≤ l := by
      have h1 : d * 2 ^ l < 2 ^ 53 * 2 ^ l := Nat.mul_lt_mul_of_pos_right d53 (Nat.two_pow_pos _)
      have h2 : 1 * 2 ^ 1074 ≤ C * 2 ^ 1074 := Nat.mul_le_mul_right _ hC
      rw [← Nat.pow_add, hY] at h1
      rw [Nat.one_mul] at h2
      have := (Nat.pow_lt_pow_iff_right (a := 2) (by omega)).mp (Nat.lt_of_le_of_lt h2 h1)
      omega
    obtain ⟨g, hg⟩ : ∃ g, g = (q + r - FP.Core.b64.qmin).toNat := ⟨_, rfl⟩
    have gl : g + 1074 = n + l := by omega
    have key : c * d * 2 ^ g = X * C := by
      refine Nat.eq_of_mul_eq_mul_right U0 ?_
      rw [Nat.mul_assoc, ← Nat.pow_add, gl, Nat.pow_add, hX]
      have : c * d * (2 ^ n * 2 ^ l) = c * 2 ^ n * (d * 2 ^ l) := by ac_rfl
      rw [this, hY, ← Nat.mul_assoc]
    have hn' : 2 ^ 52 * 1 ≤ c * d * 2 ^ (q + r - FP.Core.b64.qmin).toNat := by
      rw [← hg, key]
      have h1 : X * 1 ≤ X * C := Nat.mul_le_mul_left _ hC
      have h2 : 2 ^ 52 ≤ 2 ^ 900 := Nat.pow_le_pow_right (by omega) (by omega)
      omega
    have hlt : c * d * 2 ^ (q + r - FP.Core.b64.qmin).toNat < 1 * 2 ^ 1200 := by
      rw [← hg, key, Nat.one_mul]
      have h1 : X * C < 2 ^ 1150 * C := Nat.mul_lt_mul_of_pos_right hi hC
      have h2 : 2 ^ 1150 * C ≤ 2 ^ 1150 * 2 ^ 40 := Nat.mul_le_mul_left _ hC2
      rw [← Nat.pow_add] at h2
      have h3 : 2 ^ (1150 + 40) ≤ 2 ^ 1200 := Nat.pow_le_pow_right (by omega) (by omega)
      omega
    obtain ⟨c', q', er, s1, s2⟩ := fr_rel (s := (false != false)) (e := q + r) (Nat.pos_of_ne_zero hc) (show 0 < 1 by omega) (by omega) hn' hlt
    rw [← hg, key, Nat.mul_one] at s1 s2
    have e2 : FP.Core.val64 (FP.dmul x y) = .fin (false != false) c' q' := by rw [e, er]
    obtain ⟨z, hz⟩ : ∃ z, z = FP.Core.inUnits c' q' FP.Core.b64.qmin := ⟨_, rfl⟩
    rw [← hz] at s1 s2
    have t3 : 9007199254740992 * (z * B) ≤ 9007199254740993 * (X * B * C) := by
      have := Nat.mul_le_mul_right B s1
      rw [Nat.mul_assoc, mD] at this; exact this
    have t4 : 9007199254740991 * (X * B * C) ≤ 9007199254740992 * (z * B) := by
      have := Nat.mul_le_mul_right B s2
      rw [mD, Nat.mul_assoc 9007199254740992] at this; exact this
    have ay : A * C * 2 ^ 1074 = A * 2 ^ 1074 * C := Nat.mul_right_comm _ _ _
    have b1' : 9007199254740992 * (X * B * C) ≤ 9007199254740992 * (A * C * 2 ^ 1074) + k * (A * C * 2 ^ 1074) := by
      have := Nat.mul_le_mul_right C b1
      rw [Nat.add_mul, Nat.mul_assoc, mA, mA] at this; exact this
    have b2' : 9007199254740992 * (A * C * 2 ^ 1074) ≤ 9007199254740992 * (X * B * C) + k * (A * C * 2 ^ 1074) := by
      have := Nat.mul_le_mul_right C b2
      rw [Nat.add_mul, mA, Nat.mul_assoc 9007199254740992 (X * B), mA] at this; exact this
    have hkY : k * (A * C * 2 ^ 1074) ≤ 1048576 * (A * C * 2 ^ 1074) := Nat.mul_le_mul_right _ hk
    obtain ⟨u1, u2⟩ := fin_up b1' b2' hkY t3 t4
    have zm : FP.Core.zmag FP.Core.b64 (FP.Core.val64 (FP.dmul x y)) = z := by rw [e2, hz]; rfl
    refine ⟨hB0, ⟨_, _, _, e2, fun z => by cases z⟩, ?_, ?_⟩
    · rw [zm, Nat.add_mul]; exact u1
    · rw [zm, Nat.add_mul]; exact u2
/-- a sum -/
theorem Rr.add {x y : UInt64} {A B A' B' k : Nat} (h : Rr x A B k) (h' : Rr y A' B' k) (hA : A ≤ 2 ^ 64) (hB : B ≤ 2 ^ 100) (hA' : A' ≤ 2 ^ 64) (hB' : B' ≤ 2 ^ 100) (hk : k ≤ 1048576) : Rr (FP.dadd x y) (A * B' + A' * B) (B * B') (k + 2) := by
  have lh := fun hA0 => h.lohi hA0 hA hB hk
  have lh' := fun hA0 => h'.lohi hA0 hA' hB' hk
  have zz := h.zero hk
  have zz' := h'.zero hk
  have vx := h.zv
  have vy := h'.zv
  have fx := FP.Core.val64_fits x
  have fy := FP.Core.val64_fits y
  obtain ⟨hB0, ⟨s, c, q, ex, hs⟩, b1, b2⟩ := h
  obtain ⟨hB0', ⟨t, d, r, ey, ht⟩, b1', b2'⟩ := h'
  obtain ⟨zx, hzx⟩ : ∃ zx, zx = FP.Core.zmag FP.Core.b64 (FP.Core.val64 x) := ⟨_, rfl⟩
  obtain ⟨zy, hzy⟩ : ∃ zy, zy = FP.Core.zmag FP.Core.b64 (FP.Core.val64 y) := ⟨_, rfl⟩
  rw [← hzx] at lh zz b1 b2 vx
  rw [← hzy] at lh' zz' b1' b2' vy
  have e : FP.Core.val64 (FP.dadd x y) = FP.Core.round FP.Core.b64 (FP.Core.exactSum (FP.Core.val64 x) (FP.Core.val64 y)) := FP.Core.val64_dadd x y
  rw [ex] at vx fx
  rw [ey] at vy fy
  obtain ⟨sg, n, ee, h1, h2, h3⟩ := FP.Core.sum_units fx fy
  rw [vx, vy] at h3
  have e : FP.Core.val64 (FP.dadd x y) = FP.Core.roundRatio FP.Core.b64 sg n 1 ee := by rw [e, ex, ey, h1]; rfl
  have qm := fq_min
  have U0 := Nat.two_pow_pos 1074
  obtain ⟨g, hg⟩ : ∃ g, g = (ee - FP.Core.b64.qmin).toNat := ⟨_, rfl⟩
  have hV : FP.Core.inUnits n ee FP.Core.b64.qmin = n * 2 ^ g := by rw [hg]; rfl
  have hVz : n * 2 ^ g = zx + zy := by
    rw [hV] at h3
    unfold FP.Core.signed at h3
    cases sg
    · rw [if_neg (by decide)] at h3; omega
    · rw [if_pos rfl] at h3; omega
  have kk : 9007199254740992 * ((zx + zy) * (B * B')) ≤ 9007199254740992 * ((A * B' + A' * B) * 2 ^ 1074) + k * ((A * B' + A' * B) * 2 ^ 1074) ∧ 9007199254740992 * ((A * B' + A' * B) * 2 ^ 1074) ≤ 9007199254740992 * ((zx + zy) * (B * B')) + k * ((A * B' + A' * B) * 2 ^ 1074) := by
    have m1 := Nat.mul_le_mul_right B' b1
    have m2 := Nat.mul_le_mul_right B' b2
    have m1' := Nat.mul_le_mul_right B b1'
    have m2' := Nat.mul_le_mul_right B b2'
    have w1 := mB 9007199254740992 zx B B'
    have w2 := mC 9007199254740992 zy B B'
    have w3 := mA 9007199254740992 A (2 ^ 1074) B'
    have w4 := mA 9007199254740992 A' (2 ^ 1074) B
    have w5 := mA k A (2 ^ 1074) B'
    have w6 := mA k A' (2 ^ 1074) B
    rw [Nat.add_mul, w1, w3, w5] at m1
    rw [Nat.add_mul, w1, w3, w5] at m2
    rw [Nat.add_mul, w2, w4, w6] at m1'
    rw [Nat.add_mul, w2, w4, w6] at m2'
    rw [Nat.add_mul, Nat.add_mul, Nat.mul_add k]
    generalize zx * (B * B') = u1 at *
    generalize zy * (B * B') = u2 at *
    generalize k * (A * B' * 2 ^ 1074) = u3 at *
    generalize k * (A' * B * 2 ^ 1074) = u4 at *
    generalize A * B' * 2 ^ 1074 = u5 at *
    generalize A' * B * 2 ^ 1074 = u6 at *
    omega
  by_cases hn0 : n = 0
  · have e2 : FP.Core.val64 (FP.dadd x y) = .fin sg 0 FP.Core.b64.qmin := by
      rw [e, hn0]
      unfold FP.Core.roundRatio
      rw [if_pos rfl]
    rw [hn0, Nat.zero_mul] at hVz
    have x0 : zx = 0 := by omega
    have y0 : zy = 0 := by omega
    have A0 := zz.mp x0
    have A0' := zz'.mp y0
    refine ⟨Nat.mul_pos hB0 hB0', ⟨_, _, _, e2, fun _ => rfl⟩, ?_, ?_⟩
    · rw [e2]
      show 9007199254740992 * (FP.Core.inUnits 0 FP.Core.b64.qmin FP.Core.b64.qmin * (B * B')) ≤ _
      rw [iu0, Nat.zero_mul]; omega
    · rw [A0, A0', Nat.zero_mul, Nat.zero_mul, Nat.zero_add, Nat.zero_mul]; omega
  · have vpos : 0 < n * 2 ^ g := Nat.mul_pos (Nat.pos_of_ne_zero hn0) (Nat.two_pow_pos _)
    have hsg : sg = false := by
      rw [hV] at h3
      unfold FP.Core.signed at h3
      cases sg
      · rfl
      · rw [if_pos rfl] at h3; omega
    subst hsg
    have big : 2 ^ 900 ≤ zx + zy := by
      by_cases hx0 : zx = 0
      · have : 0 < A' := Nat.pos_of_ne_zero fun z => by have := zz'.mpr z; omega
        have := (lh' this).1
        omega
      · have : 0 < A := Nat.pos_of_ne_zero fun z => hx0 (zz.mpr z)
        have := (lh this).1
        omega
    have small : zx + zy < 2 ^ 1150 + 2 ^ 1150 := by
      have a1 : zx < 2 ^ 1150 := by
        by_cases hx0 : A = 0
        · rw [zz.mpr hx0]; exact Nat.two_pow_pos _
        · exact (lh (Nat.pos_of_ne_zero hx0)).2
      have a2 : zy < 2 ^ 1150 := by
        by_cases hx0 : A' = 0
        · rw [zz'.mpr hx0]; exact Nat.two_pow_pos _
        · exact (lh' (Nat.pos_of_ne_zero hx0)).2
      omega
    have hn' : 2 ^ 52 * 1 ≤ n * 2 ^ (ee - FP.Core.b64.qmin).toNat := by
      rw [← hg, hVz]
      have h2 : 2 ^ 52 ≤ 2 ^ 900 := Nat.pow_le_pow_right (by omega) (by omega)
      omega
    have hlt : n * 2 ^ (ee - FP.Core.b64.qmin).toNat < 1 * 2 ^ 1200 := by
      rw [← hg, hVz, Nat.one_mul]
      have e1 : 2 ^ 1150 + 2 ^ 1150 = 2 ^ 1151 := by rw [Nat.pow_succ 2 1150]; omega
      have h3 : 2 ^ 1151 ≤ 2 ^ 1200 := Nat.pow_le_pow_right (by omega) (by omega)
      omega
    obtain ⟨c', q', er, s1, s2⟩ := fr_rel (s := false) (e := ee) (Nat.pos_of_ne_zero hn0) (show 0 < 1 by omega) h2 hn' hlt
    rw [← hg, hVz, Nat.mul_one] at s1 s2
    have e2 : FP.Core.val64 (FP.dadd x y) = .fin false c' q' := by rw [e, er]
    obtain ⟨z, hz⟩ : ∃ z, z = FP.Core.inUnits c' q' FP.Core.b64.qmin := ⟨_, rfl⟩
    rw [← hz] at s1 s2
    have t3 : 9007199254740992 * (z * (B * B')) ≤ 9007199254740993 * ((zx + zy) * (B * B')) := by
      have := Nat.mul_le_mul_right (B * B') s1
      rw [Nat.mul_assoc, Nat.mul_assoc] at this; exact this
    have t4 : 9007199254740991 * ((zx + zy) * (B * B')) ≤ 9007199254740992 * (z * (B * B')) := by
      have := Nat.mul_le_mul_right (B * B') s2
      rw [Nat.mul_assoc, Nat.mul_assoc] at this; exact this
    have hkY : k * ((A * B' + A' * B) * 2 ^ 1074) ≤ 1048576 * ((A * B' + A' * B) * 2 ^ 1074) := Nat.mul_le_mul_right _ hk
    obtain ⟨u1, u2⟩ := fin_up kk.1 kk.2 hkY t3 t4
    have zm : FP.Core.zmag FP.Core.b64 (FP.Core.val64 (FP.dadd x y)) = z := by rw [e2, hz]; rfl
    refine ⟨Nat.mul_pos hB0 hB0', ⟨_, _, _, e2, fun z => by cases z⟩, ?_, ?_⟩
    · rw [zm, Nat.add_mul k 2]; exact u1
    · rw [zm, Nat.add_mul k 2]; exact u2
/-- the same fraction otherwise written -/
theorem Rr.eq {x : UInt64} {A B A' B' k : Nat} (h : Rr x A B k) (hB' : 0 < B') (he : A * B' = A' * B) : Rr x A' B' k := by
  obtain ⟨hB0, hx, b1, b2⟩ := h
  refine ⟨hB', hx, ?_, ?_⟩
  · refine Nat.le_of_mul_le_mul_right (c := B) ?_ hB0
    have m1 := Nat.mul_le_mul_right B' b1
    have w1 := mE 9007199254740992 (FP.Core.zmag FP.Core.b64 (FP.Core.val64 x)) B B'
    have w3 := mA 9007199254740992 A (2 ^ 1074) B'
    have w5 := mA k A (2 ^ 1074) B'
    have w4 := mA 9007199254740992 A' (2 ^ 1074) B
    have w6 := mA k A' (2 ^ 1074) B
    rw [Nat.add_mul, w1, w3, w5, he] at m1
    rw [Nat.add_mul, w4, w6]
    exact m1
  · refine Nat.le_of_mul_le_mul_right (c := B) ?_ hB0
    have m1 := Nat.mul_le_mul_right B' b2
    have w1 := mE 9007199254740992 (FP.Core.zmag FP.Core.b64 (FP.Core.val64 x)) B B'
    have w3 := mA 9007199254740992 A (2 ^ 1074) B'
    have w5 := mA k A (2 ^ 1074) B'
    have w4 := mA 9007199254740992 A' (2 ^ 1074) B
    have w6 := mA k A' (2 ^ 1074) B
    rw [Nat.add_mul, w1, w3, w5, he] at m1
    rw [Nat.add_mul, w4, w6]
    exact m1
end D9
