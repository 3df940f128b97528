/-! WEIGHED -/
def kW (T N : Nat → Nat) (f k : Nat) (b : Bool) : Nat := sm (wg T) (fun w => (lft T N w && (w.testBit f == b)) && won T (it N k 0) w) 256
def nW (T N : Nat → Nat) (f : Nat) (b : Bool) : Nat := cntB (fun w => lft T N w && (w.testBit f == b)) 256
section JG
variable {σ σ' : Sg} {I I' I1 I2 : Nat → Nat → Int32} {L L' L1 L2 : Nat → Nat → Int64} {T N M : Nat → Nat} {a n k f how so u : Nat} {P : Nat → Nat → Nat} {K : Nat → Bool} {Q : Nat → Nat → Nat} {b : Bool}
theorem aW_mk (hf : f < 8) (hh : how = 1 ∨ how = 4) (hk' : kn N f = false) : aW T (mkn N f how so) = fW T N f (decide (so = 1)) := sm_same fun w _ => ⟨lft_new hf hh hk', fun _ => rfl⟩
theorem pW_mk (hf : f < 8) (hh : how = 1 ∨ how = 4) (hk' : kn N f = false) : pW T (mkn N f how so) k = kW T N f k (decide (so = 1)) := sm_same fun w _ => ⟨by rw [lft_new hf hh hk', mkn_it hf], fun _ => rfl⟩
theorem nW_mk (hf : f < 8) (hh : how = 1 ∨ how = 4) (hk' : kn N f = false) : cntB (lft T (mkn N f how so)) 256 = nW T N f (decide (so = 1)) := by
  unfold nW
  rw [cnt_sm, cnt_sm]
  exact sm_same fun w _ => ⟨lft_new hf hh hk', fun _ => rfl⟩
theorem two_b (x y : Bool) : x = ((x && (y == true)) || (x && (y == false))) ∧ ((x && (y == true)) && (x && (y == false))) = false := by cases x <;> cases y <;> decide
theorem two_c (x y z : Bool) : (x && z) = (((x && (y == true)) && z) || ((x && (y == false)) && z)) ∧ (((x && (y == true)) && z) && ((x && (y == false)) && z)) = false := by cases x <;> cases y <;> cases z <;> decide
theorem fW_sum : aW T N = fW T N f true + fW T N f false := sm_two fun w _ => two_b (lft T N w) (w.testBit f)
theorem kW_sum : pW T N k = kW T N f k true + kW T N f k false := sm_two fun w _ => two_c (lft T N w) (w.testBit f) (won T (it N k 0) w)
theorem nW_sum : cntB (lft T N) 256 = nW T N f true + nW T N f false := by
  unfold nW
  rw [cnt_sm, cnt_sm, cnt_sm]
  exact sm_two fun w _ => two_b (lft T N w) (w.testBit f)
theorem sme_f (h : sme T N f b = false) (w : Nat) (hw : w < 256) : (lft T N w && (w.testBit f == b)) = false := by
  cases e : lft T N w && (w.testBit f == b)
  · rfl
  · have : sme T N f b = true := anyB_iff.mpr ⟨w, hw, e⟩
    rw [h] at this; cases this
theorem fW_0 (h : sme T N f b = false) : fW T N f b = 0 := sm_none fun w hw => sme_f h w hw
theorem kW_0 (h : sme T N f b = false) : kW T N f k b = 0 := sm_none fun w hw => by rw [sme_f h w hw]; rfl
theorem nW_0 (h : sme T N f b = false) : nW T N f b = 0 := by
  unfold nW
  rw [cnt_sm]
  exact sm_none fun w hw => sme_f h w hw
theorem kW_le : kW T N f k b ≤ fW T N f b := sm_mono fun w _ h => by
  rw [Bool.and_eq_true] at h
  exact h.1
theorem Rr.mono {x : UInt64} {A B k k' : Nat} (h : Rr x A B k) (hk : k ≤ k') : Rr x A B k' := by
  obtain ⟨h1, h2, h3, h4⟩ := h
  have m := Nat.mul_le_mul_right (A * 2 ^ 1074) hk
  exact ⟨h1, h2, Nat.le_trans h3 (Nat.add_le_add_left m _), Nat.le_trans h4 (Nat.add_le_add_left m _)⟩
theorem rr_0 {W : Nat} (hW : 0 < W) : Rr (0 : UInt64) 0 W 0 := by
  have e : FP.Core.val64 (0 : UInt64) = .fin false 0 (-1074) := by decide +kernel
  have z : FP.Core.zmag FP.Core.b64 (FP.Core.val64 (0 : UInt64)) = 0 := by decide +kernel
  refine ⟨hW, ⟨false, 0, _, e, fun _ => rfl⟩, ?_, ?_⟩
  · rw [z]; simp
  · rw [z]; simp
theorem p64 {x : Nat} (h : x ≤ 100000000) : x ≤ 2 ^ 64 := Nat.le_trans h (by decide)
theorem p100 {x : Nat} (h : x ≤ 10000000000000000) : x ≤ 2 ^ 100 := Nat.le_trans h (by decide)
theorem term_ok {t b c d X W : Nat} (hb : 0 < b) (hd : 0 < d) (htb : t ≤ b) (hb8 : b ≤ 100000000) (hcd : c ≤ d) (hd8 : d ≤ 100000000) (hW : 0 < W) (he : t * c * W = X * (b * d)) :
    ∃ v41 v45 v49, dNN (FP.ddiv (FP.l2d (lN t)) (FP.l2d (lN b))) = some v41 ∧ dNN (FP.dmul v41 (FP.i2d (nI c))) = some v45 ∧ dNN (FP.ddiv v45 (FP.i2d (nI d))) = some v49 ∧ Rr v49 X W 6 := by
  have r1 := (Ex.l (C := t) (by omega)).rr.div (Ex.l (C := b) (by omega)) hb (p64 (by omega)) (p100 (by omega)) (by omega) (p64 hb8)
  rw [Nat.one_mul] at r1
  have r2 := r1.mul (Ex.i (C := c) (by omega)) (p64 (by omega)) (p100 (by omega)) (by omega) (Nat.le_trans (by omega : c ≤ 100000000) (by decide))
  have htc : t * c ≤ 100000000 * 100000000 := Nat.mul_le_mul (by omega) (by omega)
  have r3 := r2.div (Ex.i (C := d) (by omega)) hd (Nat.le_trans htc (by decide)) (p100 (by omega)) (by omega) (p64 hd8)
  exact ⟨_, _, _, dNN_num r1.num, dNN_num r2.num, dNN_num r3.num, r3.eq hW he⟩
theorem plus_ok {x y : UInt64} {S X W k0 : Nat} (h : Rr x S W k0) (g : Rr y X W 6) (hk0 : k0 ≤ 100) (hS : S + X ≤ W) (hW8 : W ≤ 100000000) : ∃ z, dNN (FP.dadd x y) = some z ∧ Rr z (S + X) W (k0 + 8) := by
  have r := (h.mono (k' := k0 + 6) (by omega)).add (g.mono (k' := k0 + 6) (by omega)) (p64 (by omega)) (p100 (by omega)) (p64 (by omega)) (p100 (by omega)) (by omega)
  exact ⟨_, dNN_num r.num, r.eq h.1 (by rw [← Nat.add_mul, Nat.mul_assoc])⟩
theorem nI_64 {m : Nat} (h : m < 2 ^ 31) : (nI m).toInt64 = lN m := by
  apply Int64.toInt_inj.mp
  rw [Int32.toInt_toInt64, nI_toInt h, pf_lI (by omega)]
theorem lN_gt {m : Nat} (h : m < 2 ^ 62) : (0 < lg_cmp (lN m) 0) = (0 < m) := by
  rw [lg_cmp_gt, show (0 : Int64) = lN 0 from rfl]
  exact propext (lN_lt' (by omega) h)
theorem lN_sb {m o : Nat} (h : o ≤ m) (hm : m < 2 ^ 31) : lN m - lN o = lN (m - o) := by
  have e : (nI m).toInt64 - (nI o).toInt64 = lN (m - o) := by
    apply Int64.toBitVec_inj.mp
    rw [nI_64 hm, nI_64 (by omega)]
    apply BitVec.eq_of_toNat_eq
    show ((BitVec.ofNat 64 m) - (BitVec.ofNat 64 o)).toNat = (BitVec.ofNat 64 (m - o)).toNat
    rw [BitVec.toNat_sub, BitVec.toNat_ofNat, BitVec.toNat_ofNat, BitVec.toNat_ofNat]
    omega
  rw [nI_64 hm, nI_64 (by omega)] at e
  exact e
end JG
