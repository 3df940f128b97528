/-! the reference's sets of worlds, and its counting of bits -/
theorem and2 {a b x y : Nat} (hx : x < 2) (hy : y < 2) : (2 * a + x) &&& (2 * b + y) = 2 * (a &&& b) + (x &&& y) := by
  have hxy : x &&& y < 2 := Nat.lt_of_le_of_lt Nat.and_le_left hx
  apply Nat.eq_of_testBit_eq
  intro i
  cases i with
  | zero =>
    rw [Nat.testBit_and]
    simp only [Nat.testBit_zero]
    have e1 : (2 * a + x) % 2 = x := by omega
    have e2 : (2 * b + y) % 2 = y := by omega
    have e3 : (2 * (a &&& b) + (x &&& y)) % 2 = x &&& y := by omega
    rw [e1, e2, e3]
    rcases (show x = 0 ∨ x = 1 by omega) with rfl | rfl <;> rcases (show y = 0 ∨ y = 1 by omega) with rfl | rfl <;> rfl
  | succ i =>
    rw [Nat.testBit_and, Nat.testBit_succ, Nat.testBit_succ, Nat.testBit_succ, show (2 * a + x) / 2 = a by omega, show (2 * b + y) / 2 = b by omega, show (2 * (a &&& b) + (x &&& y)) / 2 = a &&& b by omega, Nat.testBit_and]
theorem cnt_half (n m : Nat) : cntB (fun i => n.testBit i) (m + 1) = (if n % 2 = 1 then 1 else 0) + cntB (fun i => (n / 2).testBit i) m := by
  rw [Nat.add_comm m 1, cntB_add]
  congr 1
  · show (0 + if n.testBit 0 = true then 1 else 0) = _
    rw [Nat.testBit_zero]; by_cases h : n % 2 = 1 <;> simp [h]
  · apply cntB_congr; intro i hi
    show n.testBit (1 + i) = (n / 2).testBit i
    rw [Nat.add_comm 1 i, Nat.testBit_succ]
theorem cnt_clear : ∀ m n, 0 < n → n < 2 ^ m → cntB (fun i => n.testBit i) m = cntB (fun i => (n &&& (n - 1)).testBit i) m + 1 := by
  intro m
  induction m with
  | zero => intro n h1 h2; simp at h2; omega
  | succ m ih =>
    intro n h1 h2
    rw [cnt_half, cnt_half]
    by_cases hodd : n % 2 = 1
    · have e : n &&& (n - 1) = 2 * (n / 2) := by
        have := and2 (a := n / 2) (b := n / 2) (x := 1) (y := 0) (by omega) (by omega)
        rw [show 2 * (n / 2) + 1 = n by omega, show 2 * (n / 2) + 0 = n - 1 by omega] at this
        rw [this, Nat.and_self]; simp
      rw [e, if_pos hodd, if_neg (by omega), show 2 * (n / 2) / 2 = n / 2 by omega]; omega
    · have e : n &&& (n - 1) = 2 * (n / 2 &&& (n / 2 - 1)) := by
        have := and2 (a := n / 2) (b := n / 2 - 1) (x := 0) (y := 1) (by omega) (by omega)
        rw [show 2 * (n / 2) + 0 = n by omega, show 2 * (n / 2 - 1) + 1 = n - 1 by omega] at this
        rw [this]; rfl
      have h3 := ih (n / 2) (by omega) (by rw [Nat.pow_succ] at h2; omega)
      rw [e, if_neg hodd, if_neg (by omega), show 2 * (n / 2 &&& (n / 2 - 1)) / 2 = (n / 2 &&& (n / 2 - 1)) by omega, h3]; omega
theorem nI_z {n : Nat} (h : n < 2 ^ 32) : (nI n = 0) = (n = 0) := by
  apply propext
  constructor
  · intro e
    have := congrArg (fun x => x.toBitVec.toNat) e
    have h1 : (nI n).toBitVec.toNat = n := by show (BitVec.ofNat 32 n).toNat = n; rw [BitVec.toNat_ofNat, Nat.mod_eq_of_lt h]
    have h2 : (0 : Int32).toBitVec.toNat = 0 := by decide
    rw [h1, h2] at this; exact this
  · intro e; subst e; rfl
theorem mbits_go : ∀ n, n < 2 ^ 32 → ∀ c, mX12_bits_l4 (nI c) (nI n) = some (nI (c + cntB (fun i => n.testBit i) 32)) := by
  intro n
  induction n using Nat.strongRecOn with
  | _ n ih =>
    intro hn c
    unfold mX12_bits_l4
    by_cases h0 : n = 0
    · subst h0
      refine lp_inr ?_
      show mX12_bits_l4f (nI c) (nI 0) = _
      unfold mX12_bits_l4f
      rw [if_pos (show nI 0 = 0 from rfl)]
      have : cntB (fun i => (0 : Nat).testBit i) 32 = 0 := by decide
      rw [this]; rfl
    · have hlt : n &&& (n - 1) < n := Nat.lt_of_le_of_lt Nat.and_le_right (by omega)
      have hs : mX12_bits_l4f (nI c) (nI n) = some (.inl (nI (c + 1), nI (n &&& (n - 1)))) := by
        unfold mX12_bits_l4f
        rw [if_neg (by rw [nI_z hn]; exact h0), nI_1, nI_s1 (by omega), nx_and]
      rw [lp_inl (f := fun s : Int32 × Int32 => mX12_bits_l4f s.1 s.2) (s := (nI c, nI n)) hs]
      have := ih _ hlt (by omega) (c + 1)
      unfold mX12_bits_l4 at this
      rw [this, cnt_clear 32 n (by omega) hn]
      congr 2; omega
theorem mbits_ok (x : Int32) : mX12_bits x = some (nI (cntB (bt x) 32)) := by
  obtain ⟨n, hn, rfl⟩ := wb_of32 x
  unfold mX12_bits
  have := mbits_go n hn 0
  rw [Nat.zero_add] at this
  rw [show (0 : Int32) = nI 0 from rfl, this]
  congr 2
  apply cntB_congr
  intro i hi
  exact (bt_n hi).symm
theorem mbits_b {ρ : Type} (x : Int32) (f : Int32 → Option ρ) : (mX12_bits x).bind f = f (nI (cntB (bt x) 32)) := by rw [mbits_ok]; rfl
/-- how many of the first eight -/
def pc (n : Nat) : Nat := cntB (fun i => n.testBit i) 8
theorem tb_big {n i : Nat} (h : n < 256) (hi : 8 ≤ i) : n.testBit i = false := Nat.testBit_lt_two_pow (Nat.lt_of_lt_of_le h (Nat.pow_le_pow_right (n := 2) (by omega) hi))
theorem cnt32 {n : Nat} (h : n < 256) : cntB (bt (nI n)) 32 = pc n := by
  have : (32 : Nat) = 8 + 24 := rfl
  rw [this, cntB_add]
  have z : cntB (fun i => bt (nI n) (8 + i)) 24 = 0 := by
    rw [cntB_0]
    cases hb : anyB (fun i => bt (nI n) (8 + i)) 24
    · rfl
    · obtain ⟨w, hw, e⟩ := anyB_iff.mp hb
      rw [bt_n (by omega), tb_big h (by omega)] at e; cases e
  rw [z, Nat.add_zero]
  exact cntB_congr fun i hi => bt_n (by omega)
theorem cbits_ok : ∀ n, n < 256 → mJ6_bitCount_0f7a4 (nI n) = some (nI (pc n)) := by decide +kernel
theorem pc_le (n : Nat) : pc n ≤ 8 := cntB_le _ _
/-! sets, 32 worlds a number -/
def mw (r : Nat → Int32) (k w : Nat) : Bool := bt (r (8 * k + w / 32)) (w % 32)
def Rm (r : Nat → Int32) (k : Nat) (f : Nat → Bool) : Prop := ∀ w, w < 256 → mw r k w = f w
theorem ushr_bit (x : Int32) {j : Nat} (hj : j < 32) : ushrI x (nI j) &&& 1 = bI (bt x j) := by
  apply b_ext; intro i hi
  have h1 : ∀ i, i < 32 → bt 1 i = decide (i = 0) := by decide +kernel
  have hu : bt (ushrI x (nI j)) i = bt x (j + i) := b_ushr j hj x i
  rw [b_and, h1 i hi, hu]
  have h2 : bt (bI (bt x j)) i = (bt x j && decide (i = 0)) := by
    cases bt x j
    · simp [bI, b_0]
    · simp [bI, h1 i hi]
  rw [h2]
  by_cases e : i = 0
  · subst e; simp
  · simp [e]
theorem w_h5 {w : Nat} (h : w < 256) : nI w >>> ((5 : Int32) &&& 31) = nI (w / 32) := by
  have := shr_n (a := w) (f := 5) (by omega) (by omega)
  rw [Nat.shiftRight_eq_div_pow] at this
  exact this
theorem w_l5 {w : Nat} : nI w &&& (31 : Int32) = nI (w % 32) := by
  rw [show (31 : Int32) = nI 31 from rfl, nx_and, show (31 : Nat) = 2 ^ 5 - 1 from rfl, Nat.and_two_pow_sub_one_eq_mod]
section MS
variable {σ : Sg} {I : Nat → Nat → Int32} {L : Nat → Nat → Int64}
theorem isIn_ok {a n k w : Nat} (hs : SH (gN σ) a = (50, n)) (hw : w < 256) (hk' : 8 * k + w / 32 < n) (hn : n < 2147483648) : mX12_isIn a (nI k) (nI w) (hk σ I L) = some (bI (mw (I a) k w)) := by
  unfold mX12_isIn
  rw [w_h5 hw, w_l5, show (8 : Int32) = nI 8 from rfl, pk_mul, nI_add]
  have hs' : hpS (hk σ I L) a = (50, n) := hs
  rw [ldI_ok hs' hk' hn, obind, ushr_bit _ (by omega), hpI_hk]
  unfold mw
  cases bt (I a (8 * k + w / 32)) (w % 32) <;> rfl
def addR (r : Nat → Int32) (k w : Nat) (b : Bool) : Nat → Int32 := if b = true then updA r (8 * k + w / 32) (r (8 * k + w / 32) ||| nI (2 ^ (w % 32))) else r
theorem shl31 : ∀ f, f < 32 → (1 : Int32) <<< (nI f &&& 31) = nI (2 ^ f) := by decide +kernel
theorem adds_ok {a n k w : Nat} (b : Bool) (hs : SH (gN σ) a = (50, n)) (hw : w < 256) (hk' : 8 * k + w / 32 < n) (hn : n < 2147483648) : mX12_adds a (nI k) (nI w) (bI b) (hk σ I L) = some (hk σ (rowUp I a (addR (I a) k w b)) L) := by
  unfold mX12_adds addR
  cases b
  · rw [if_pos (show bI false = 0 from rfl), if_neg (by decide), rowUp_id]
  · rw [if_neg (show ¬ bI true = 0 by decide), if_pos rfl]
    rw [w_h5 hw, w_l5, show (8 : Int32) = nI 8 from rfl, pk_mul, nI_add]
    have hs' : hpS (hk σ I L) a = (50, n) := hs
    have e31 : nI (w % 32) &&& 31 &&& 31 = nI (w % 32) &&& 31 := by rw [Int32.and_assoc, Int32.and_self]
    rw [ldI_ok hs' hk' hn, obind, stI_ok hs' hk' hn, obind, shl31 _ (by omega), hpI_hk, setI_hk]
    rfl
theorem mw_add (r : Nat → Int32) (k w j v : Nat) (b : Bool) (hv : v < 256) (hw : w < 256) : mw (addR r k w b) j v = (mw r j v || (b && decide (j = k ∧ v = w))) := by
  unfold addR
  cases b
  · simp
  · rw [if_pos rfl]
    unfold mw
    rw [updA_at]
    by_cases e : 8 * j + v / 32 = 8 * k + w / 32
    · rw [if_pos e, b_or, bt_n (by omega), Nat.testBit_two_pow]
      have hjk : j = k := by omega
      subst hjk
      rw [e]
      by_cases hvw : v = w
      · subst hvw; simp
      · have h2 : ¬ w % 32 = v % 32 := by omega
        simp [h2, hvw]
    · rw [if_neg e]
      have : ¬ (j = k ∧ v = w) := fun h => e (by omega)
      simp [this]
theorem many_ok {a n : Nat} {f : Nat → Bool} (hs : SH (gN σ) a = (50, n)) (h8 : 8 ≤ n) (hn : n < 2147483648) (hf : Rm (I a) 0 f) : mX12_many a (hk σ I L) = some (nI (cntB f 256)) := by
  have hs' : hpS (hk σ I L) a = (50, n) := hs
  unfold mX12_many mX12_many_l4
  refine lp_traj (f := fun s : Int32 × Int32 => mX12_many_l4f a (hk σ I L) s.1 s.2) 8 (fun i => (nI (cntB f (32 * i)), nI i)) (nI (cntB f 256)) (fun i hi => ?_) ?_
  · show mX12_many_l4f a (hk σ I L) (nI (cntB f (32 * i))) (nI i) = _
    unfold mX12_many_l4f
    rw [show (8 : Int32) = nI 8 from rfl, c_lt hi (by omega), ldI_ok hs' (by omega) hn, obind, mbits_ok, obind, nI_1, nI_add, hpI_hk, show 32 * (i + 1) = 32 * i + 32 by omega, cntB_add]
    congr 5
    apply cntB_congr; intro j hj
    have := hf (32 * i + j) (by omega)
    unfold mw at this
    rw [show 8 * 0 + (32 * i + j) / 32 = i by omega, show (32 * i + j) % 32 = j by omega] at this
    exact this
  · show mX12_many_l4f a (hk σ I L) (nI (cntB f (32 * 8))) (nI 8) = _
    unfold mX12_many_l4f
    rw [if_neg (by decide)]; rfl
theorem holdsIn_ok {a n e : Nat} {f g : Nat → Bool} (hs : SH (gN σ) a = (50, n)) (h8 : 8 ≤ n) (hn : n < 2147483648) (hf : Rm (I a) 0 f) (he : e < 32) (hg : Rm (I 445) e g) : mX12_holdsIn 433 a (nI e) (hk σ I L) = some (nI (cntB (fun w => f w && g w) 256)) := by
  have hs' : hpS (hk σ I L) a = (50, n) := hs
  have ht : hpS (hk σ I L) 445 = (50, 256) := rfl
  unfold mX12_holdsIn mX12_holdsIn_l5
  rw [if_pos (show (hpS (hk σ I L) 433).1 = 13 from rfl)]
  refine lp_traj (f := fun s : Int32 × Int32 => mX12_holdsIn_l5f 433 a (nI e) (hk σ I L) s.1 s.2) 8 (fun i => (nI (cntB (fun w => f w && g w) (32 * i)), nI i)) (nI (cntB (fun w => f w && g w) 256)) (fun i hi => ?_) ?_
  · show mX12_holdsIn_l5f 433 a (nI e) (hk σ I L) (nI (cntB (fun w => f w && g w) (32 * i))) (nI i) = _
    unfold mX12_holdsIn_l5f
    rw [show (8 : Int32) = nI 8 from rfl, c_lt hi (by omega), ldI_ok hs' (by omega) hn, obind, show gR 12 25 433 (hk σ I L) = some 445 from rfl, obind, pk_mul, nI_add, ldI_ok ht (by omega) (by omega), obind, mbits_ok, obind, nI_1, nI_add, hpI_hk, hpI_hk, show 32 * (i + 1) = 32 * i + 32 by omega, cntB_add]
    congr 5
    apply cntB_congr; intro j hj
    have h1 := hf (32 * i + j) (by omega)
    have h2 := hg (32 * i + j) (by omega)
    unfold mw at h1 h2
    rw [show 8 * 0 + (32 * i + j) / 32 = i by omega, show (32 * i + j) % 32 = j by omega] at h1
    rw [show 8 * e + (32 * i + j) / 32 = 8 * e + i by omega, show (32 * i + j) % 32 = j by omega] at h2
    show bt (I a i &&& I 445 (8 * e + i)) j = (f (32 * i + j) && g (32 * i + j))
    rw [b_and, h1, h2]
  · show mX12_holdsIn_l5f 433 a (nI e) (hk σ I L) (nI (cntB (fun w => f w && g w) (32 * 8))) (nI 8) = _
    unfold mX12_holdsIn_l5f
    rw [if_neg (by decide)]; rfl
theorem cnt_sub (f g : Nat → Bool) (n : Nat) : cntB (fun w => f w && g w) n = cntB f n ↔ allB (fun w => !f w || g w) n = true := by
  have le : ∀ n, cntB (fun w => f w && g w) n ≤ cntB f n := by
    intro n
    induction n with
    | zero => exact Nat.le_refl _
    | succ n ih =>
      simp only [cntB]
      by_cases h1 : f n = true <;> by_cases h2 : g n = true <;> simp [h1, h2] <;> omega
  induction n with
  | zero => simp [cntB, allB]
  | succ n ih =>
    have := le n
    simp only [cntB, allB, Bool.and_eq_true, ← ih]
    by_cases h1 : f n = true <;> by_cases h2 : g n = true <;> simp [h1, h2] <;> omega
theorem isSure_ok {a n e : Nat} {f g : Nat → Bool} (hs : SH (gN σ) a = (50, n)) (h8 : 8 ≤ n) (hn : n < 2147483648) (hf : Rm (I a) 0 f) (he : e < 32) (hg : Rm (I 445) e g) : mX12_isSure 433 a (nI e) (hk σ I L) = some (bI (allB (fun w => !f w || g w) 256)) := by
  unfold mX12_isSure
  rw [if_pos (show (hpS (hk σ I L) 433).1 = 13 from rfl), holdsIn_ok hs h8 hn hf he hg, obind, many_ok hs h8 hn hf, obind]
  have l1 := cntB_le (fun w => f w && g w) 256
  have l2 := cntB_le f 256
  rw [c_eqd (by omega) (by omega)]
  by_cases h : cntB (fun w => f w && g w) 256 = cntB f 256
  · rw [if_pos h, (cnt_sub f g 256).mp h]; rfl
  · rw [if_neg h]
    cases hb : allB (fun w => !f w || g w) 256
    · rfl
    · exact absurd ((cnt_sub f g 256).mpr hb) h
theorem mempties_ok {a n : Nat} (hs : SH (gN σ) a = (50, n)) (hn : n < 2147483647) : mX12_empties a (hk σ I L) = some (hk σ (rowUp I a (fun k => if k < n then 0 else I a k)) L) := by
  have hs' : hpS (hk σ I L) a = (50, n) := hs
  unfold mX12_empties mX12_empties_l2
  have := lp_fillI (f := fun s : Int32 × Hp => mX12_empties_l2f a s.1 s.2) (hk σ I L) a n (fun _ => 0) (fun i hi r hr => ?_) (fun r => ?_)
  · exact this
  · have hs2 : hpS (setI (hk σ I L) a r) a = (50, n) := hs
    show mX12_empties_l2f a (nI i) (setI (hk σ I L) a r) = _
    unfold mX12_empties_l2f
    rw [aLen_ok hs2 rfl, obind, c_lt hi (by omega), stI_ok hs2 hi (by omega), obind, nI_1, setI_two, setI_I, if_pos rfl]
  · have hs2 : hpS (setI (hk σ I L) a r) a = (50, n) := hs
    show mX12_empties_l2f a (nI n) (setI (hk σ I L) a r) = _
    unfold mX12_empties_l2f
    rw [aLen_ok hs2 rfl, obind, c_nlt (Nat.le_refl _) (by omega)]; rfl
/-- those of a set that agree with literals -/
theorem laysAgreed_ok {a F S : Nat} {c : Nat → Bool} (hs : SH (gN σ) a = (50, 8)) (ha : a ≠ 444) (hF : F < 256) (hS : S < 256) (hc : Rm (I 444) 0 c) :
    ∃ r, mX12_laysAgreed 433 a (nI F) (nI S) (hk σ I L) = some (hk σ (rowUp I a r) L) ∧ Rm r 0 (fun w => c w && decide (w &&& F = S)) := by
  unfold mX12_laysAgreed
  rw [if_pos (show (hpS (hk σ I L) 433).1 = 13 from rfl), mempties_ok hs (by omega), obind]
  unfold mX12_laysAgreed_l7
  have key := lp_inv (f := fun s : Int32 × Hp => mX12_laysAgreed_l7f 433 a (nI F) (nI S) s.1 s.2) 256 (fun i st => ∃ r, st = (nI i, hk σ (rowUp I a r) L) ∧ ∀ w, w < 256 → mw r 0 w = (decide (w < i) && (c w && decide (w &&& F = S))))
    (fun h' => ∃ r, h' = hk σ (rowUp I a r) L ∧ Rm r 0 (fun w => c w && decide (w &&& F = S)))
    (fun i st hi hQ => by
      obtain ⟨r, rfl, hr⟩ := hQ
      have hcan : mX12_isIn 444 0 (nI i) (hk σ (rowUp I a r) L) = some (bI (c i)) := by
        have := isIn_ok (σ := σ) (I := rowUp I a r) (L := L) (a := 444) (n := 8) (k := 0) (w := i) rfl hi (by omega) (by omega)
        rw [rowUp_at, if_neg (fun e => ha e.symm), hc i hi] at this
        exact this
      have hadd : ∀ b, mX12_adds a 0 (nI i) (bI b) (hk σ (rowUp I a r) L) = some (hk σ (rowUp I a (addR r 0 i b)) L) := fun b => by
        have := adds_ok (σ := σ) (I := rowUp I a r) (L := L) (a := a) (n := 8) (k := 0) (w := i) b hs hi (by omega) (by omega)
        rw [rowUp_two, rowUp_same] at this
        exact this
      refine ⟨(nI (i + 1), hk σ (rowUp I a (addR r 0 i (c i && decide (i &&& F = S)))) L), ?_, _, rfl, fun w hw => ?_⟩
      · show mX12_laysAgreed_l7f 433 a (nI F) (nI S) (nI i) _ = _
        unfold mX12_laysAgreed_l7f mX12_laysAgreed_b44 mX12_laysAgreed_b45
        have hiF : i &&& F < 256 := Nat.lt_of_le_of_lt Nat.and_le_right hF
        rw [show (256 : Int32) = nI 256 from rfl, c_lt hi (by omega), nx_and, c_eqd (by omega) (by omega), show gR 12 24 433 (hk σ (rowUp I a r) L) = some 444 from rfl, obind, hcan, obind, c_b]
        by_cases h : i &&& F = S
        · rw [if_pos h, decide_eq_true h, Bool.and_true]
          cases hci : c i
          · rw [if_neg (by decide)]
            have := hadd false
            rw [show bI false = 0 from rfl] at this
            rw [this, obind, nI_1]
          · rw [if_pos rfl]
            have := hadd true
            rw [show bI true = 1 from rfl] at this
            rw [this, obind, nI_1]
        · rw [if_neg h, decide_eq_false h, Bool.and_false]
          have := hadd false
          rw [show bI false = 0 from rfl] at this
          rw [this, obind, nI_1]
      · rw [mw_add _ _ _ _ _ _ hw hi, hr w hw]
        by_cases e : w = i
        · subst e; simp
        · have : decide (w < i + 1) = decide (w < i) := decide_eq_decide.mpr (by omega)
          rw [this]; simp [e])
    (fun st hQ => by
      obtain ⟨r, rfl, hr⟩ := hQ
      refine ⟨_, ?_, r, rfl, fun w hw => by rw [hr w hw]; simp [hw]⟩
      show mX12_laysAgreed_l7f 433 a (nI F) (nI S) (nI 256) _ = _
      unfold mX12_laysAgreed_l7f
      rw [if_neg (by decide)]; rfl)
    (s := (nI 0, hk σ (rowUp I a (fun k => if k < 8 then 0 else I a k)) L)) ⟨_, rfl, fun w hw => by
      show bt (if 8 * 0 + w / 32 < 8 then 0 else _) _ = _
      rw [if_pos (by omega), b_0]; simp⟩
  obtain ⟨h', e, r, rfl, hr⟩ := key
  exact ⟨r, e, hr⟩
end MS
