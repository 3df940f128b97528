section Proofs
variable {σ : Sg} {I I' J I1 I2 : Nat → Nat → Int32} {L L' L1 L2 : Nat → Nat → Int64}
/-- a set without one -/
def rmv (s f : Nat) : Nat := s ^^^ (s &&& 2 ^ f)
theorem rmv_bit (s f i : Nat) : (rmv s f).testBit i = (s.testBit i && !decide (i = f)) := by
  unfold rmv
  rw [Nat.testBit_xor, Nat.testBit_and, Nat.testBit_two_pow]
  by_cases e : i = f
  · subst e; rw [decide_eq_true rfl]; cases s.testBit i <;> rfl
  · rw [decide_eq_false e, decide_eq_false (fun q => e q.symm)]; cases s.testBit i <;> rfl
theorem rmv_or {s f : Nat} (h : s.testBit f = true) : rmv s f ||| 2 ^ f = s := by
  apply Nat.eq_of_testBit_eq; intro i
  rw [tb_or1, rmv_bit]
  by_cases e : i = f
  · subst e; rw [decide_eq_true rfl, h]; rfl
  · rw [decide_eq_false e]; cases s.testBit i <;> rfl
theorem rmv_no {s f : Nat} (h : s.testBit f = false) : rmv s f = s := by
  apply Nat.eq_of_testBit_eq; intro i
  rw [rmv_bit]
  by_cases e : i = f
  · subst e; rw [h]; rfl
  · rw [decide_eq_false e]; cases s.testBit i <;> rfl
theorem rmv_sb {s f : Nat} : sb (rmv s f) s := fun i hi => by
  rw [rmv_bit, Bool.and_eq_true] at hi; exact hi.1
theorem rmv_sb2 {so fs f : Nat} (h : sb so fs) : sb (rmv so f) (rmv fs f) := fun i hi => by
  rw [rmv_bit, Bool.and_eq_true] at hi ⊢; exact ⟨h i hi.1, hi.2⟩
theorem rmv_f (s f : Nat) : (rmv s f).testBit f = false := by rw [rmv_bit, decide_eq_true rfl, Bool.not_true, Bool.and_false]
theorem rmv_lt {s f : Nat} (h : s < 256) : rmv s f < 256 := Nat.lt_of_le_of_lt (sb_le rmv_sb) h
/-- the node with one literal left out -/
theorem nd_rmv {fs so f : Nat} (hf : f < 8) (hs : sb so fs) (hb : fs.testBit f = true) : nd fs so = nd (rmv fs f) (rmv so f) + (if so.testBit f = true then 2 else 1) * 3 ^ f := by
  cases e : so.testBit f
  · rw [if_neg (by decide), Nat.one_mul, rmv_no e]
    have := nd_or1 (S := so) hf (rmv_f fs f)
    rw [rmv_or hb] at this
    exact this
  · rw [if_pos rfl]
    have := nd_or2 hf (rmv_f fs f) (rmv_sb2 hs)
    rw [rmv_or hb, rmv_or e] at this
    exact this
/-- proved by a way -/
def prv (T N : Nat → Nat) (k : Nat) (wn : Bool) (x : Nat) : Bool := if wn = true then decide (cn (lw T N k) (T 1) x = cn (lft T N) (T 1) x) else decide (cn (lw T N k) (T 1) x = 0)
def pf (T N : Nat → Nat) (k : Nat) (wn : Bool) (fs so : Nat) : Bool := lv T N (nd fs so) && prv T N k wn (nd fs so) && allB (fun f => !(fs.testBit f && prv T N k wn (nd (rmv fs f) (rmv so f)))) (T 1)
/-- pairs of sets in their order -/
def kf (c : Nat) : Nat := c / 256 % 256
def ks (c : Nat) : Nat := c % 256
def kv (F0 c : Nat) : Bool := decide (pc (kf c) = c / 65536) && (decide (kf c ^^^ (kf c &&& F0) = 0) && decide (ks c ^^^ (ks c &&& kf c) = 0))
def kq (T N : Nat → Nat) (k : Nat) (wn : Bool) (c : Nat) : Bool := kv (fre T N) c && pf T N k wn (kf c) (ks c)
theorem kf_at {m F S : Nat} (hF : F < 256) (hS : S < 256) : kf (m * 65536 + F * 256 + S) = F := by unfold kf; omega
theorem ks_at {m F S : Nat} (hF : F < 256) (hS : S < 256) : ks (m * 65536 + F * 256 + S) = S := by unfold ks; omega
theorem kv_iff {F0 c : Nat} : kv F0 c = true ↔ pc (kf c) = c / 65536 ∧ sb (kf c) F0 ∧ sb (ks c) (kf c) := by
  unfold kv
  rw [Bool.and_eq_true, Bool.and_eq_true, decide_eq_true_iff, decide_eq_true_iff, decide_eq_true_iff, sb_iff, sb_iff]
theorem kv_no {F0 c : Nat} (h : ¬ (pc (kf c) = c / 65536 ∧ sb (kf c) F0 ∧ sb (ks c) (kf c))) : kv F0 c = false := by
  rw [← Bool.not_eq_true]; exact fun q => h (kv_iff.mp q)
theorem cnt_gap {p : Nat → Bool} {n m : Nat} (h : n ≤ m) (hz : ∀ f, n ≤ f → f < m → p f = false) : cntB p m = cntB p n := by
  obtain ⟨e, rfl⟩ := Nat.le.dest h
  clear h
  induction e with
  | zero => rfl
  | succ e ih =>
    rw [show n + (e + 1) = (n + e) + 1 from rfl, cntS, hz (n + e) (by omega) (by omega), if_neg (by decide), Nat.add_zero]
    exact ih fun f h1 h2 => hz f h1 (by omega)
/-- no more than 6561 -/
theorem cnt_one {p : Nat → Bool} : ∀ {n}, (∀ i j, i < n → j < n → p i = true → p j = true → i = j) → cntB p n ≤ 1
  | 0, _ => by show 0 ≤ 1; omega
  | n + 1, h => by
    rw [cntS]
    by_cases e : p n = true
    · have z : cntB p n = 0 := by
        rw [cntB_0, ← Bool.not_eq_true, anyB_iff]
        rintro ⟨w, h1, h2⟩
        have := h w n (by omega) (by omega) h2 e
        omega
      rw [z, if_pos e]; omega
    · rw [if_neg e]
      exact cnt_one fun i j hi hj => h i j (by omega) (by omega)
theorem cnt_pig {g : Nat → Nat} {n : Nat} : ∀ {m : Nat} {p : Nat → Bool}, (∀ i, i < n → p i = true → g i < m) → (∀ i j, i < n → j < n → p i = true → p j = true → g i = g j → i = j) → cntB p n ≤ m
  | 0, p, h1, _ => by
    have : cntB p n = 0 := by
      rw [cntB_0, ← Bool.not_eq_true, anyB_iff]
      rintro ⟨w, a, b⟩
      have := h1 w a b
      omega
    omega
  | m + 1, p, h1, h2 => by
    have s := cntB_two (p := p) (q := fun i => p i && !decide (g i = m)) (r := fun i => p i && decide (g i = m)) (n := n) fun w _ => by cases p w <;> cases decide (g w = m) <;> exact ⟨rfl, rfl⟩
    have a := cnt_pig (g := g) (n := n) (m := m) (p := fun i => p i && !decide (g i = m)) (fun i hi hp => by
      rw [Bool.and_eq_true] at hp
      have q1 := h1 i hi hp.1
      have q2 : ¬ g i = m := by have := hp.2; simpa using this
      omega) (fun i j hi hj hp hq => by
      rw [Bool.and_eq_true] at hp hq
      exact h2 i j hi hj hp.1 hq.1)
    have b := cnt_one (p := fun i => p i && decide (g i = m)) (n := n) fun i j hi hj hp hq => by
      rw [Bool.and_eq_true, decide_eq_true_iff] at hp hq
      exact h2 i j hi hj hp.1 hq.1 (by rw [hp.2, hq.2])
    omega
theorem kf_lt (c : Nat) : kf c < 256 := by unfold kf; omega
theorem ks_lt (c : Nat) : ks c < 256 := by unfold ks; omega
theorem kv_cnt {F0 : Nat} (n : Nat) : cntB (kv F0) n ≤ 6561 := cnt_pig (g := fun c => nd (kf c) (ks c)) (fun i _ _ => nd_lt _ _) fun i j _ _ hp hq e => by
  have p := kv_iff.mp hp
  have q := kv_iff.mp hq
  obtain ⟨e1, e2⟩ := nd_inj (kf_lt i) (kf_lt j) p.2.2 q.2.2 e
  have a := p.1
  have b := q.1
  rw [e1] at a
  have c : i / 65536 = j / 65536 := by rw [← a, ← b]
  unfold kf at e1
  unfold ks at e2
  omega
theorem kq_cnt {T N : Nat → Nat} {k : Nat} {wn : Bool} (n : Nat) : cntB (kq T N k wn) n ≤ 6561 := Nat.le_trans (cntB_leq fun i _ h => by unfold kq at h; rw [Bool.and_eq_true] at h; exact h.1) (kv_cnt (F0 := fre T N) n)
/-- wayOf -/
theorem wayOf_ok (h3 : P3 I) {F S : Nat} (hF : F < 256) (hS : S < 256) (hs : sb S F) : mX12_wayOf (nI F) (nI S) (hk σ I L) = some (nI (nd F S)) := by
  unfold mX12_wayOf mX12_wayOf_l4
  rw [nd_tv]
  have bd : ∀ i, i ≤ 8 → tv (fun f => b1 F f + b1 S f) i < 3 ^ i := fun i _ => tv_lt fun f _ => nd_d hs f
  refine lp_traj (f := fun s : Int32 × Int32 => mX12_wayOf_l4f (nI F) (nI S) (hk σ I L) s.1 s.2) 8 (fun i => (nI (tv (fun f => b1 F f + b1 S f) i), nI i)) _ (fun i hi => ?_) ?_
  · show mX12_wayOf_l4f (nI F) (nI S) (hk σ I L) (nI (tv (fun f => b1 F f + b1 S f) i)) (nI i) = some (.inl (nI (tv (fun f => b1 F f + b1 S f) i + (b1 F i + b1 S i) * 3 ^ i), nI (i + 1)))
    unfold mX12_wayOf_l4f mX12_wayOf_b37 mX12_wayOf_b42
    rw [c_lt8 hi, mhas_nI (by omega) (by omega), obind, bI_if0, nI_1]
    have hsi := hs i
    unfold b1
    cases q : F.testBit i
    · have : S.testBit i = false := by cases e : S.testBit i; rfl; rw [q] at hsi; exact absurd (hsi e) (by decide)
      rw [if_pos rfl, this, Int32.add_zero]
      simp
    · rw [if_neg nTF, ld3 h3 (by omega), obind, mhas_nI (by omega) (by omega), obind, bI_if0]
      cases S.testBit i
      · show some (Sum.inl (nI (tv (fun f => b1 F f + b1 S f) i) + nI (3 ^ i) * 1, nI (i + 1))) = some (Sum.inl (nI (tv (fun f => b1 F f + b1 S f) i + (1 + 0) * 3 ^ i), nI (i + 1)))
        rw [Int32.mul_one, nI_add, Nat.add_zero, Nat.one_mul]
      · show some (Sum.inl (nI (tv (fun f => b1 F f + b1 S f) i) + nI (3 ^ i) * nI 2, nI (i + 1))) = some (Sum.inl (nI (tv (fun f => b1 F f + b1 S f) i + (1 + 1) * 3 ^ i), nI (i + 1)))
        rw [pk_mul, nI_add, Nat.mul_comm]
  · show mX12_wayOf_l4f (nI F) (nI S) (hk σ I L) (nI (tv (fun f => b1 F f + b1 S f) 8)) (nI 8) = _
    unfold mX12_wayOf_l4f
    rw [if_neg (by decide), xts]
theorem WW.up {T N : Nat → Nat} {k : Nat} (h : WW T N k I) {a : Nat} (r : Nat → Int32) (h1 : a ≠ 451) (h2 : a ≠ 452) : WW T N k (rowUp I a r) := fun x hx => by
  rw [rowUp_at, rowUp_at, if_neg (Ne.symm h1), if_neg (Ne.symm h2)]; exact h x hx
theorem isProved_ok {T N : Nat → Nat} (hW : WT T) {k x : Nat} (hw : WW T N k I) (wn : Bool) (hx : x < 3 ^ T 1) : mX12_isProved 433 (nI x) (bI wn) (hk σ I L) = some (bI (prv T N k wn x)) := by
  have hM := p3_8 hW.1.2.1
  have bl := cn_le (lft T N) (T 1) x
  have bw := cn_le (lw T N k) (T 1) x
  obtain ⟨w1, w2⟩ := hw x hx
  unfold mX12_isProved prv
  rw [if_pos s433, bI_if0]
  cases wn
  · show _ = some (bI (decide (cn (lw T N k) (T 1) x = 0)))
    rw [if_pos rfl, g452, obind, ldI_ok (n := 6561) rfl (by omega) (by omega), obind, hpI_hk', w2, c_0 (by omega)]
    by_cases z : cn (lw T N k) (T 1) x = 0
    · rw [if_pos z, decide_eq_true z]; rfl
    · rw [if_neg z, decide_eq_false z]; rfl
  · rw [if_neg nTF, g452, obind, ldI_ok (n := 6561) rfl (by omega) (by omega), obind, hpI_hk', w2, g451, obind, ldI_ok (n := 6561) rfl (by omega) (by omega), obind, hpI_hk', w1, c_eqd (by omega) (by omega), if_pos rfl]
    by_cases z : cn (lw T N k) (T 1) x = cn (lft T N) (T 1) x
    · rw [if_pos z, decide_eq_true z]; rfl
    · rw [if_neg z, decide_eq_false z]; rfl
theorem misProof_ok {T N : Nat → Nat} (h : MI I T N) (h3 : P3 I) {k fs so : Nat} (hw : WW T N k I) (wn : Bool) (hf : sb fs (fre T N)) (hs : sb so fs) : mX12_isProof 433 (nI fs) (nI so) (bI wn) (hk σ I L) = some (bI (pf T N k wn fs so)) := by
  have hW := h.2.2.1
  have w1 := hW.1.2.1
  have hM := p3_8 w1
  have hF := fre_lt (N := N) hW
  have hfl := sb_le hf
  have hsl := sb_le hs
  have hx := nd_T hW hf hs
  have bl := cn_le (lft T N) (T 1) (nd fs so)
  unfold mX12_isProof pf
  rw [if_pos s433, wayOf_ok h3 (by omega) (by omega) hs, obind, g451, obind, ldI_ok (n := 6561) rfl (by omega) (by omega), obind, hpI_hk', (hw _ hx).1, c_0 (by omega)]
  by_cases z : cn (lft T N) (T 1) (nd fs so) = 0
  · rw [if_pos z, show lv T N (nd fs so) = false by unfold lv; exact decide_eq_false fun q => q z]; rfl
  · rw [if_neg z, show lv T N (nd fs so) = true by unfold lv; exact decide_eq_true z, isProved_ok hW hw wn hx, obind, bI_if0, Bool.true_and]
    cases prv T N k wn (nd fs so)
    · rw [if_pos rfl]; rfl
    · rw [if_neg nTF, Bool.true_and]
      unfold mX12_isProof_l32
      have key := lp_all (f := fun s : Int32 => mX12_isProof_l32f 433 (nI fs) (nI so) (bI wn) (hk σ I L) s) (T 1) (fun i => nI i) (fun f => !(fs.testBit f && prv T N k wn (nd (rmv fs f) (rmv so f)))) (0 : Int32) (1 : Int32)
      have body : ∀ i, i < T 1 → mX12_isProof_l32f 433 (nI fs) (nI so) (bI wn) (hk σ I L) (nI i) = if (!(fs.testBit i && prv T N k wn (nd (rmv fs i) (rmv so i)))) = true then some (.inl (nI (i + 1))) else some (.inr 0) := by
        intro i hi
        have hp2 : 2 ^ i < 256 := Nat.pow_lt_pow_right (a := 2) (by omega) (show i < 8 by omega)
        unfold mX12_isProof_l32f mX12_isProof_b81
        rw [g434, ldT1 h.1, obind, c_lt hi (by omega), mhas_nI (by omega) (by omega), obind, bI_if0, nI_1]
        cases q : fs.testBit i
        · rw [if_pos rfl]; rfl
        · have wo : mX12_wayOf (nI (fs ^^^ (fs &&& 2 ^ i))) (nI (so ^^^ (so &&& 2 ^ i))) (hk σ I L) = some (nI (nd (rmv fs i) (rmv so i))) := wayOf_ok h3 (F := rmv fs i) (S := rmv so i) (rmv_lt (by omega)) (rmv_lt (by omega)) (rmv_sb2 hs)
          rw [if_neg nTF, shl1 (by omega), nx_not (by omega), nx_not (by omega), wo, obind, isProved_ok hW hw wn (nd_T hW (sb_tr rmv_sb hf) (rmv_sb2 hs)), obind, bI_if0, Bool.true_and]
          cases prv T N k wn (nd (rmv fs i) (rmv so i))
          · rw [if_pos rfl]; rfl
          · rw [if_neg nTF, xts]; rfl
      refine (key (fun i hi hp => ?_) (fun i hi hp => ?_) ?_).trans ?_
      · rw [body i hi, hp, if_pos rfl]
      · rw [body i hi, hp, if_neg (by decide)]
      · show mX12_isProof_l32f 433 (nI fs) (nI so) (bI wn) (hk σ I L) (nI (T 1)) = _
        unfold mX12_isProof_l32f
        rw [g434, ldT1 h.1, obind, c_nlt (Nat.le_refl _) (by omega), xts]
      · cases allB (fun f => !(fs.testBit f && prv T N k wn (nd (rmv fs f) (rmv so f)))) (T 1) <;> rfl
end Proofs
