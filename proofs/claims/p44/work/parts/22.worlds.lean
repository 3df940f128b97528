/-! the class's leaves: rows with their lengths looked at, sets of worlds -/
theorem xt_some {S ρ : Type} (r : ρ) : xt (S := S) (some r) = some (.inr r) := rfl
theorem at_nI {a n i : Nat} {h : Hp} (hs : hpS h a = (50, n)) (hn : n < 2 ^ 31) (hi : i < 2 ^ 31) : mX11_at a (nI i) h = some (if i < n then hpI h a i else 0) := by
  unfold mX11_at
  rw [if_neg (nI_pos hi), aLen_ok hs rfl, Option.bind_some, c_ltd hi hn]
  by_cases h1 : i < n
  · rw [if_pos h1, if_pos h1, ldI_ok hs h1 hn]; rfl
  · rw [if_neg h1, if_neg h1]
theorem at_neg {a : Nat} {i : Int32} {h : Hp} (hi : i < 0) : mX11_at a i h = some 0 := by
  unfold mX11_at; rw [if_pos hi]
theorem put_nI {a n i : Nat} {v : Int32} {h : Hp} (hs : hpS h a = (50, n)) (hn : n < 2 ^ 31) (hi : i < n) : mX11_put a (nI i) v h = some (setI h a (updA (hpI h a) i v)) := by
  unfold mX11_put
  rw [if_neg (nI_pos (by omega)), aLen_ok hs rfl, Option.bind_some, c_lt hi hn, stI_ok hs hi hn]; rfl
theorem put_out {a n i : Nat} {v : Int32} {h : Hp} (hs : hpS h a = (50, n)) (hn : n < 2 ^ 31) (hi : n ≤ i) (h31 : i < 2 ^ 31) : mX11_put a (nI i) v h = some h := by
  unfold mX11_put
  rw [if_neg (nI_pos h31), aLen_ok hs rfl, Option.bind_some, c_nlt hi h31]
theorem longAt_nI {a n i : Nat} {h : Hp} (hs : hpS h a = (51, n)) (hn : n < 2 ^ 31) (hi : i < 2 ^ 31) : mX11_longAt a (nI i) h = some (if i < n then hpL h a i else 0) := by
  unfold mX11_longAt
  rw [if_neg (nI_pos hi), aLen_ok hs rfl, Option.bind_some, c_ltd hi hn]
  by_cases h1 : i < n
  · rw [if_pos h1, if_pos h1, ldL_ok hs h1 hn]; rfl
  · rw [if_neg h1, if_neg h1]
theorem putLong_nI {a n i : Nat} {v : Int64} {h : Hp} (hs : hpS h a = (51, n)) (hn : n < 2 ^ 31) (hi : i < n) : mX11_putLong a (nI i) v h = some (setL h a (updA (hpL h a) i v)) := by
  unfold mX11_putLong
  rw [if_neg (nI_pos (by omega)), aLen_ok hs rfl, Option.bind_some, c_lt hi hn, stL_ok hs hi hn]; rfl
theorem needSlot_nI (k i : Nat) : mX11_needSlot (nI k) (nI i) = some (nI (4 * k + i)) := by
  unfold mX11_needSlot
  rw [show (4 : Int32) = nI 4 from rfl, pk_mul, nI_add]
/-- a row is laid place by place -/
theorem lp_fillL {f : Int32 × Hp → Option ((Int32 × Hp) ⊕ Hp)} (h : Hp) (p n : Nat) (g : Nat → Int64)
    (hs : ∀ i, i < n → ∀ r : Nat → Int64, (∀ k, r k = if k < i then g k else hpL h p k) → f (nI i, setL h p r) = some (.inl (nI (i + 1), setL h p (updA r i (g i)))))
    (he : ∀ r, f (nI n, setL h p r) = some (.inr (setL h p r))) : lp f (0, h) = some (setL h p (fun k => if k < n then g k else hpL h p k)) := by
  have key := lp_up (f := f) n (fun i s => ∃ r, s = (nI i, setL h p r) ∧ ∀ k, r k = if k < i then g k else hpL h p k) (fun o => o = some (setL h p (fun k => if k < n then g k else hpL h p k)))
    (fun i s hi hI => by
      obtain ⟨r, rfl, hr⟩ := hI
      refine Or.inl ⟨_, hs i hi r hr, _, rfl, fun k => ?_⟩
      rw [updA_at, hr k]
      by_cases h1 : k = i
      · subst h1; simp
      · by_cases h2 : k < i
        · rw [if_neg h1, if_pos h2, if_pos (by omega)]
        · rw [if_neg h1, if_neg h2, if_neg (by omega)])
    (fun s hI => by
      obtain ⟨r, rfl, hr⟩ := hI
      exact ⟨_, he r, by rw [show r = _ from funext hr]⟩) (i := 0) (s := (nI 0, setL h p (hpL h p))) (Nat.zero_le _) ⟨_, rfl, fun k => by simp⟩
  rw [setL_id] at key
  exact key
theorem lp_fillI {f : Int32 × Hp → Option ((Int32 × Hp) ⊕ Hp)} (h : Hp) (p n : Nat) (g : Nat → Int32)
    (hs : ∀ i, i < n → ∀ r : Nat → Int32, (∀ k, r k = if k < i then g k else hpI h p k) → f (nI i, setI h p r) = some (.inl (nI (i + 1), setI h p (updA r i (g i)))))
    (he : ∀ r, f (nI n, setI h p r) = some (.inr (setI h p r))) : lp f (0, h) = some (setI h p (fun k => if k < n then g k else hpI h p k)) := by
  have key := lp_up (f := f) n (fun i s => ∃ r, s = (nI i, setI h p r) ∧ ∀ k, r k = if k < i then g k else hpI h p k) (fun o => o = some (setI h p (fun k => if k < n then g k else hpI h p k)))
    (fun i s hi hI => by
      obtain ⟨r, rfl, hr⟩ := hI
      refine Or.inl ⟨_, hs i hi r hr, _, rfl, fun k => ?_⟩
      rw [updA_at, hr k]
      by_cases h1 : k = i
      · subst h1; simp
      · by_cases h2 : k < i
        · rw [if_neg h1, if_pos h2, if_pos (by omega)]
        · rw [if_neg h1, if_neg h2, if_neg (by omega)])
    (fun s hI => by
      obtain ⟨r, rfl, hr⟩ := hI
      exact ⟨_, he r, by rw [show r = _ from funext hr]⟩) (i := 0) (s := (nI 0, setI h p (hpI h p))) (Nat.zero_le _) ⟨_, rfl, fun k => by simp⟩
  rw [setI_id] at key
  exact key
theorem wipe_ok {a n : Nat} {h : Hp} (hs : hpS h a = (50, n)) (hn : n < 2 ^ 31 - 1) : mX11_wipe a h = some (setI h a (fun k => if k < n then 0 else hpI h a k)) := by
  unfold mX11_wipe mX11_wipe_l2
  refine lp_fillI h a n (fun _ => 0) (fun i hi r hr => ?_) (fun r => ?_)
  · have hs2 : hpS (setI h a r) a = (50, n) := hs
    show mX11_wipe_l2f a (nI i) (setI h a r) = _
    unfold mX11_wipe_l2f
    rw [aLen_ok hs2 rfl, Option.bind_some, c_lt hi (by omega), stI_ok hs2 hi (by omega), Option.bind_some, nI_1, setI_two, setI_I, if_pos rfl]
  · have hs2 : hpS (setI h a r) a = (50, n) := hs
    show mX11_wipe_l2f a (nI n) (setI h a r) = _
    unfold mX11_wipe_l2f
    rw [aLen_ok hs2 rfl, Option.bind_some, c_nlt (Nat.le_refl _) (by omega)]; rfl
theorem copyRow_ok {a b n : Nat} {h : Hp} (hs : hpS h a = (50, n)) (hb : hpS h b = (50, n)) (hab : a ≠ b) (hn : n < 2 ^ 31 - 1) : mX11_copyRow a b h = some (setI h b (fun k => if k < n then hpI h a k else hpI h b k)) := by
  unfold mX11_copyRow mX11_copyRow_l2
  refine lp_fillI h b n (fun k => hpI h a k) (fun i hi r hr => ?_) (fun r => ?_)
  · have hs2 : hpS (setI h b r) a = (50, n) := hs
    have hb2 : hpS (setI h b r) b = (50, n) := hb
    show mX11_copyRow_l2f a b (nI i) (setI h b r) = _
    unfold mX11_copyRow_l2f
    rw [aLen_ok hs2 rfl, Option.bind_some, c_lt hi (by omega), aLen_ok hb2 rfl, Option.bind_some, c_lt hi (by omega), ldI_ok hs2 hi (by omega), Option.bind_some, stI_ok hb2 hi (by omega), Option.bind_some, nI_1, setI_two, setI_I, setI_I, if_pos rfl, if_neg hab]
  · have hs2 : hpS (setI h b r) a = (50, n) := hs
    show mX11_copyRow_l2f a b (nI n) (setI h b r) = _
    unfold mX11_copyRow_l2f
    rw [aLen_ok hs2 rfl, Option.bind_some, c_nlt (Nat.le_refl _) (by omega)]; rfl
/-! sets of worlds -/
def isW (h : Hp) (a p : Nat) : Prop := (hpS h a).1 = 11 ∧ hpR h a 0 = p ∧ hpS h p = (51, 4)
/-- a row of four longs has a bit for each of 256 worlds -/
def wv (L : Nat → Int64) (w : Nat) : Bool := (L (w / 64)).toBitVec.getLsbD (w % 64)
def Rw (L : Nat → Int64) (f : Nat → Bool) : Prop := ∀ w, w < 256 → wv L w = f w
def allB (f : Nat → Bool) : Nat → Bool
  | 0 => true
  | n + 1 => allB f n && f n
def anyB (f : Nat → Bool) : Nat → Bool
  | 0 => false
  | n + 1 => anyB f n || f n
def cntB (f : Nat → Bool) : Nat → Nat
  | 0 => 0
  | n + 1 => cntB f n + (if f n then 1 else 0)
theorem allB_iff {f : Nat → Bool} {n : Nat} : allB f n = true ↔ ∀ w, w < n → f w = true := by
  induction n with
  | zero => simp [allB]
  | succ n ih =>
    simp only [allB, Bool.and_eq_true, ih]
    constructor
    · rintro ⟨h1, h2⟩ w hw
      by_cases e : w = n
      · subst e; exact h2
      · exact h1 w (by omega)
    · intro h; exact ⟨fun w hw => h w (by omega), h n (by omega)⟩
theorem anyB_iff {f : Nat → Bool} {n : Nat} : anyB f n = true ↔ ∃ w, w < n ∧ f w = true := by
  induction n with
  | zero => simp [anyB]
  | succ n ih =>
    simp only [anyB, Bool.or_eq_true, ih]
    constructor
    · rintro (⟨w, h1, h2⟩ | h)
      · exact ⟨w, by omega, h2⟩
      · exact ⟨n, by omega, h⟩
    · rintro ⟨w, h1, h2⟩
      by_cases e : w = n
      · subst e; exact Or.inr h2
      · exact Or.inl ⟨w, by omega, h2⟩
theorem allB_congr {f g : Nat → Bool} {n : Nat} (h : ∀ w, w < n → f w = g w) : allB f n = allB g n := by
  induction n with
  | zero => rfl
  | succ n ih => simp only [allB]; rw [ih fun w hw => h w (by omega), h n (by omega)]
theorem anyB_congr {f g : Nat → Bool} {n : Nat} (h : ∀ w, w < n → f w = g w) : anyB f n = anyB g n := by
  induction n with
  | zero => rfl
  | succ n ih => simp only [anyB]; rw [ih fun w hw => h w (by omega), h n (by omega)]
theorem cntB_congr {f g : Nat → Bool} {n : Nat} (h : ∀ w, w < n → f w = g w) : cntB f n = cntB g n := by
  induction n with
  | zero => rfl
  | succ n ih => simp only [cntB]; rw [ih fun w hw => h w (by omega), h n (by omega)]
theorem cntB_le (f : Nat → Bool) (n : Nat) : cntB f n ≤ n := by
  induction n with
  | zero => exact Nat.le_refl _
  | succ n ih => simp only [cntB]; split <;> omega
theorem cntB_0 {f : Nat → Bool} {n : Nat} : cntB f n = 0 ↔ anyB f n = false := by
  induction n with
  | zero => simp [cntB, anyB]
  | succ n ih => simp only [cntB, anyB, Bool.or_eq_false_iff, ← ih]; cases f n <;> simp
theorem i64_and (a b : Int64) (i : Nat) : (a &&& b).toBitVec.getLsbD i = (a.toBitVec.getLsbD i && b.toBitVec.getLsbD i) := by
  rw [Int64.toBitVec_and, BitVec.getLsbD_and]
theorem i64_or (a b : Int64) (i : Nat) : (a ||| b).toBitVec.getLsbD i = (a.toBitVec.getLsbD i || b.toBitVec.getLsbD i) := by
  rw [Int64.toBitVec_or, BitVec.getLsbD_or]
theorem i64_not (a : Int64) {i : Nat} (hi : i < 64) : (a ^^^ (-1)).toBitVec.getLsbD i = !a.toBitVec.getLsbD i := by
  rw [Int64.toBitVec_xor, BitVec.getLsbD_xor]
  have : (-1 : Int64).toBitVec.getLsbD i = true := by
    have h : ∀ i, i < 64 → (-1 : Int64).toBitVec.getLsbD i = true := by decide +kernel
    exact h i hi
  rw [this]; cases a.toBitVec.getLsbD i <;> rfl
theorem i64_m1 {i : Nat} (hi : i < 64) : (-1 : Int64).toBitVec.getLsbD i = true := by
  have h : ∀ i, i < 64 → (-1 : Int64).toBitVec.getLsbD i = true := by decide +kernel
  exact h i hi
theorem i64_0 (i : Nat) : (0 : Int64).toBitVec.getLsbD i = false := by
  show (0#64).getLsbD i = false
  simp
theorem i64_ext0 {a : Int64} : a = 0 ↔ ∀ i, i < 64 → a.toBitVec.getLsbD i = false := by
  constructor
  · intro h i _; rw [h]; exact i64_0 i
  · intro h
    apply Int64.toBitVec_inj.mp
    apply BitVec.eq_of_getLsbD_eq
    intro i hi
    rw [h i hi]; exact (i64_0 i).symm
theorem lg_cmp0 (a b : Int64) : (lg_cmp a b = 0) = (a = b) := by
  unfold lg_cmp
  apply propext
  by_cases h1 : a > b
  · rw [if_pos h1]
    constructor
    · intro h; exact absurd h (by decide)
    · intro h; subst h; exact absurd h1 (Int64.lt_irrefl)
  · rw [if_neg h1]
    by_cases h2 : a = b
    · rw [if_pos h2]; simp [h2]
    · rw [if_neg h2]; simp [h2]
theorem wv_set {r : Nat → Int64} {f : Nat → Bool} (h : ∀ i, i < 4 → ∀ j, j < 64 → (r i).toBitVec.getLsbD j = f (64 * i + j)) : Rw r f := by
  intro w hw
  unfold wv
  rw [h (w / 64) (by omega) (w % 64) (by omega)]
  congr 1; omega
theorem Rw.bit {r : Nat → Int64} {f : Nat → Bool} (h : Rw r f) {i j : Nat} (hi : i < 4) (hj : j < 64) : (r i).toBitVec.getLsbD j = f (64 * i + j) := by
  have := h (64 * i + j) (by omega)
  unfold wv at this
  rw [show (64 * i + j) / 64 = i by omega, show (64 * i + j) % 64 = j by omega] at this
  exact this
/-- a row of four laid out of places -/
theorem wv_fill {L : Nat → Int64} {g : Nat → Int64} {f : Nat → Bool} (h : ∀ i, i < 4 → ∀ j, j < 64 → (g i).toBitVec.getLsbD j = f (64 * i + j)) : Rw (fun k => if k < 4 then g k else L k) f :=
  wv_set fun i hi j hj => by rw [if_pos hi]; exact h i hi j hj
theorem isW.S {h : Hp} {a p q : Nat} {r : Nat → Int64} (hw : isW h a p) : isW (setL h q r) a p := hw
theorem isW.I {h : Hp} {a p q : Nat} {r : Nat → Int32} (hw : isW h a p) : isW (setI h q r) a p := hw
theorem isW.g {h : Hp} {a p : Nat} (hw : isW h a p) : gR 10 0 a h = some p := by rw [gR_ok hw.1, hw.2.1]
theorem isW.len {h : Hp} {a p : Nat} (hw : isW h a p) : aLen p h = some (nI 4) := aLen_ok hw.2.2 rfl
theorem fill_ok {a p : Nat} {h : Hp} (hw : isW h a p) : ∃ r, mX10_fill a h = some (setL h p r) ∧ Rw r (fun _ => true) := by
  refine ⟨fun k => if k < 4 then -1 else hpL h p k, ?_, wv_fill fun i hi j hj => i64_m1 hj⟩
  unfold mX10_fill mX10_fill_l2
  rw [if_pos hw.1]
  refine lp_fillL h p 4 (fun _ => -1) (fun i hi r hr => ?_) (fun r => ?_)
  · show mX10_fill_l2f a (nI i) (setL h p r) = _
    unfold mX10_fill_l2f
    rw [hw.S.g, Option.bind_some, hw.S.len, Option.bind_some, c_lt hi (by omega), Option.bind_some, stL_ok hw.S.2.2 hi (by omega), Option.bind_some, nI_1, setL_two, setL_L, if_pos rfl]
  · show mX10_fill_l2f a (nI 4) (setL h p r) = _
    unfold mX10_fill_l2f
    rw [hw.S.g, Option.bind_some, hw.S.len, Option.bind_some, c_nlt (Nat.le_refl _) (by omega)]; rfl
theorem copy_ok {a p b q : Nat} {h : Hp} {f : Nat → Bool} (hw : isW h a p) (hv : isW h b q) (hpq : q ≠ p) (hf : Rw (hpL h q) f) : ∃ r, mX10_copy a b h = some (setL h p r) ∧ Rw r f := by
  refine ⟨fun k => if k < 4 then hpL h q k else hpL h p k, ?_, wv_fill fun i hi j hj => hf.bit hi hj⟩
  unfold mX10_copy mX10_copy_l2
  rw [if_pos hw.1]
  refine lp_fillL h p 4 (fun k => hpL h q k) (fun i hi r hr => ?_) (fun r => ?_)
  · show mX10_copy_l2f a b (nI i) (setL h p r) = _
    unfold mX10_copy_l2f
    rw [hw.S.g, Option.bind_some, hw.S.len, Option.bind_some, c_lt hi (by omega), hv.S.g, Option.bind_some, hv.S.len, Option.bind_some, c_lt hi (by omega), Option.bind_some, Option.bind_some, ldL_ok hv.S.2.2 hi (by omega), Option.bind_some, stL_ok hw.S.2.2 hi (by omega), Option.bind_some, nI_1, setL_two, setL_L, setL_L, if_pos rfl, if_neg hpq]
  · show mX10_copy_l2f a b (nI 4) (setL h p r) = _
    unfold mX10_copy_l2f
    rw [hw.S.g, Option.bind_some, hw.S.len, Option.bind_some, c_nlt (Nat.le_refl _) (by omega)]; rfl
theorem and_ok {a p b q : Nat} {h : Hp} {f g : Nat → Bool} (hw : isW h a p) (hv : isW h b q) (hpq : q ≠ p) (hf : Rw (hpL h p) f) (hg : Rw (hpL h q) g) : ∃ r, mX10_and a b h = some (setL h p r) ∧ Rw r (fun w => f w && g w) := by
  refine ⟨fun k => if k < 4 then hpL h p k &&& hpL h q k else hpL h p k, ?_, wv_fill fun i hi j hj => by rw [i64_and, hf.bit hi hj, hg.bit hi hj]⟩
  unfold mX10_and mX10_and_l2
  rw [if_pos hw.1]
  refine lp_fillL h p 4 (fun k => hpL h p k &&& hpL h q k) (fun i hi r hr => ?_) (fun r => ?_)
  · show mX10_and_l2f a b (nI i) (setL h p r) = _
    unfold mX10_and_l2f
    rw [hw.S.g, Option.bind_some, hw.S.len, Option.bind_some, c_lt hi (by omega), hv.S.g, Option.bind_some, hv.S.len, Option.bind_some, c_lt hi (by omega), Option.bind_some, ldL_ok hw.S.2.2 hi (by omega), Option.bind_some, Option.bind_some, ldL_ok hv.S.2.2 hi (by omega), Option.bind_some, stL_ok hw.S.2.2 hi (by omega), Option.bind_some, nI_1, setL_two, setL_L, setL_L, if_pos rfl, if_neg hpq, hr i, if_neg (Nat.lt_irrefl i)]
  · show mX10_and_l2f a b (nI 4) (setL h p r) = _
    unfold mX10_and_l2f
    rw [hw.S.g, Option.bind_some, hw.S.len, Option.bind_some, c_nlt (Nat.le_refl _) (by omega)]; rfl
theorem minus_ok {a p b q : Nat} {h : Hp} {f g : Nat → Bool} (hw : isW h a p) (hv : isW h b q) (hpq : q ≠ p) (hf : Rw (hpL h p) f) (hg : Rw (hpL h q) g) : ∃ r, mX10_minus a b h = some (setL h p r) ∧ Rw r (fun w => f w && !g w) := by
  refine ⟨fun k => if k < 4 then hpL h p k &&& (hpL h q k ^^^ (-1)) else hpL h p k, ?_, wv_fill fun i hi j hj => by rw [i64_and, i64_not _ hj, hf.bit hi hj, hg.bit hi hj]⟩
  unfold mX10_minus mX10_minus_l2
  rw [if_pos hw.1]
  refine lp_fillL h p 4 (fun k => hpL h p k &&& (hpL h q k ^^^ (-1))) (fun i hi r hr => ?_) (fun r => ?_)
  · show mX10_minus_l2f a b (nI i) (setL h p r) = _
    unfold mX10_minus_l2f
    rw [hw.S.g, Option.bind_some, hw.S.len, Option.bind_some, c_lt hi (by omega), hv.S.g, Option.bind_some, hv.S.len, Option.bind_some, c_lt hi (by omega), Option.bind_some, ldL_ok hw.S.2.2 hi (by omega), Option.bind_some, Option.bind_some, ldL_ok hv.S.2.2 hi (by omega), Option.bind_some, stL_ok hw.S.2.2 hi (by omega), Option.bind_some, nI_1, setL_two, setL_L, setL_L, if_pos rfl, if_neg hpq, hr i, if_neg (Nat.lt_irrefl i)]
  · show mX10_minus_l2f a b (nI 4) (setL h p r) = _
    unfold mX10_minus_l2f
    rw [hw.S.g, Option.bind_some, hw.S.len, Option.bind_some, c_nlt (Nat.le_refl _) (by omega)]; rfl
/-- all, any of 256 by fours -/
theorem allB_256 {f : Nat → Bool} : allB f 256 = true ↔ ∀ i, i < 4 → ∀ j, j < 64 → f (64 * i + j) = true := by
  rw [allB_iff]
  constructor
  · intro h i hi j hj; exact h _ (by omega)
  · intro h w hw
    have := h (w / 64) (by omega) (w % 64) (by omega)
    rw [show 64 * (w / 64) + w % 64 = w by omega] at this; exact this
theorem within_ok {a p b q : Nat} {h : Hp} {f g : Nat → Bool} (hw : isW h a p) (hv : isW h b q) (hf : Rw (hpL h p) f) (hg : Rw (hpL h q) g) : mX10_within a b h = some (bI (allB (fun w => !f w || g w) 256)) := by
  have part : ∀ i, i < 4 → ((hpL h p i &&& (hpL h q i ^^^ (-1))) = 0 ↔ ∀ j, j < 64 → (!f (64 * i + j) || g (64 * i + j)) = true) := by
    intro i hi
    rw [i64_ext0]
    constructor
    · intro z j hj
      have := z j hj
      rw [i64_and, i64_not _ hj, hf.bit hi hj, hg.bit hi hj] at this
      cases h1 : f (64 * i + j) <;> cases h2 : g (64 * i + j) <;> simp [h1, h2] at this ⊢
    · intro z j hj
      have := z j hj
      rw [i64_and, i64_not _ hj, hf.bit hi hj, hg.bit hi hj]
      cases h1 : f (64 * i + j) <;> cases h2 : g (64 * i + j) <;> simp [h1, h2] at this ⊢
  unfold mX10_within mX10_within_l2
  rw [if_pos hw.1]
  refine lp_up (n := 4) (i := 0) (fun i s => s = nI i ∧ ∀ k, k < i → ∀ j, j < 64 → (!f (64 * k + j) || g (64 * k + j)) = true) (fun o => o = some (bI (allB (fun w => !f w || g w) 256))) ?_ ?_ (Nat.zero_le _) ⟨rfl, fun k hk => by omega⟩
  · rintro i s hi ⟨rfl, hI⟩
    show (∃ t, mX10_within_l2f a b h (nI i) = _ ∧ _) ∨ _
    unfold mX10_within_l2f
    rw [hw.g, Option.bind_some, hw.len, Option.bind_some, c_lt hi (by omega), hv.g, Option.bind_some, hv.len, Option.bind_some, c_lt hi (by omega), Option.bind_some, ldL_ok hw.2.2 hi (by omega), Option.bind_some, Option.bind_some, ldL_ok hv.2.2 hi (by omega), Option.bind_some]
    by_cases hz : (hpL h p i &&& (hpL h q i ^^^ (-1))) = 0
    · refine Or.inl ⟨nI (i + 1), ?_, rfl, fun k hk => ?_⟩
      · rw [if_pos (by rw [lg_cmp0]; exact hz), nI_1]
      · by_cases e : k = i
        · subst e; exact (part k hi).mp hz
        · exact hI k (by omega)
    · refine Or.inr ⟨0, ?_, ?_⟩
      · rw [if_neg (by rw [lg_cmp0]; exact hz)]; rfl
      · have : allB (fun w => !f w || g w) 256 = false := by
          cases hb : allB (fun w => !f w || g w) 256
          · rfl
          · exact absurd ((part i hi).mpr fun j hj => allB_256.mp hb i hi j hj) hz
        rw [this]; rfl
  · rintro s ⟨rfl, hI⟩
    refine ⟨1, ?_, ?_⟩
    · show mX10_within_l2f a b h (nI 4) = _
      unfold mX10_within_l2f
      rw [hw.g, Option.bind_some, hw.len, Option.bind_some, c_nlt (Nat.le_refl _) (by omega)]; rfl
    · rw [show allB (fun w => !f w || g w) 256 = true from allB_256.mpr hI]; rfl
theorem meets_ok {a p b q : Nat} {h : Hp} {f g : Nat → Bool} (hw : isW h a p) (hv : isW h b q) (hf : Rw (hpL h p) f) (hg : Rw (hpL h q) g) : mX10_meets a b h = some (bI (anyB (fun w => f w && g w) 256)) := by
  have part : ∀ i, i < 4 → ((hpL h p i &&& hpL h q i) = 0 ↔ ∀ j, j < 64 → (f (64 * i + j) && g (64 * i + j)) = false) := by
    intro i hi
    rw [i64_ext0]
    constructor
    · intro z j hj
      have := z j hj
      rw [i64_and, hf.bit hi hj, hg.bit hi hj] at this; exact this
    · intro z j hj
      rw [i64_and, hf.bit hi hj, hg.bit hi hj]; exact z j hj
  unfold mX10_meets mX10_meets_l2
  rw [if_pos hw.1]
  refine lp_up (n := 4) (i := 0) (fun i s => s = nI i ∧ ∀ k, k < i → ∀ j, j < 64 → (f (64 * k + j) && g (64 * k + j)) = false) (fun o => o = some (bI (anyB (fun w => f w && g w) 256))) ?_ ?_ (Nat.zero_le _) ⟨rfl, fun k hk => by omega⟩
  · rintro i s hi ⟨rfl, hI⟩
    show (∃ t, mX10_meets_l2f a b h (nI i) = _ ∧ _) ∨ _
    unfold mX10_meets_l2f
    rw [hw.g, Option.bind_some, hw.len, Option.bind_some, c_lt hi (by omega), hv.g, Option.bind_some, hv.len, Option.bind_some, c_lt hi (by omega), Option.bind_some, ldL_ok hw.2.2 hi (by omega), Option.bind_some, Option.bind_some, ldL_ok hv.2.2 hi (by omega), Option.bind_some]
    by_cases hz : (hpL h p i &&& hpL h q i) = 0
    · refine Or.inl ⟨nI (i + 1), ?_, rfl, fun k hk => ?_⟩
      · rw [if_pos (by rw [lg_cmp0]; exact hz), nI_1]
      · by_cases e : k = i
        · subst e; exact (part k hi).mp hz
        · exact hI k (by omega)
    · refine Or.inr ⟨1, ?_, ?_⟩
      · rw [if_neg (by rw [lg_cmp0]; exact hz)]; rfl
      · have : anyB (fun w => f w && g w) 256 = true := by
          cases hb : anyB (fun w => f w && g w) 256
          · refine absurd ((part i hi).mpr fun j hj => ?_) hz
            cases hc : (f (64 * i + j) && g (64 * i + j))
            · rfl
            · have : anyB (fun w => f w && g w) 256 = true := anyB_iff.mpr ⟨64 * i + j, by omega, hc⟩
              rw [hb] at this; cases this
          · rfl
        rw [this]; rfl
  · rintro s ⟨rfl, hI⟩
    refine ⟨0, ?_, ?_⟩
    · show mX10_meets_l2f a b h (nI 4) = _
      unfold mX10_meets_l2f
      rw [hw.g, Option.bind_some, hw.len, Option.bind_some, c_nlt (Nat.le_refl _) (by omega)]; rfl
    · have : anyB (fun w => f w && g w) 256 = false := by
        cases hb : anyB (fun w => f w && g w) 256
        · rfl
        · obtain ⟨w, h1, h2⟩ := anyB_iff.mp hb
          have := hI (w / 64) (by omega) (w % 64) (by omega)
          rw [show 64 * (w / 64) + w % 64 = w by omega] at this
          rw [this] at h2; cases h2
      rw [this]; rfl
/-- 1: within, 0: apart, 2: else -/
def how3 (f g : Nat → Bool) : Int32 := if allB (fun w => !f w || g w) 256 then 1 else if anyB (fun w => f w && g w) 256 then 2 else 0
theorem howIn_ok {a p b q : Nat} {h : Hp} {f g : Nat → Bool} (hw : isW h a p) (hv : isW h b q) (hf : Rw (hpL h p) f) (hg : Rw (hpL h q) g) : mX10_howIn a b h = some (how3 f g) := by
  unfold mX10_howIn how3
  rw [if_pos hw.1, within_ok hw hv hf hg, Option.bind_some, c_b, meets_ok hw hv hf hg, Option.bind_some, c_b]
  split
  · rfl
  · split <;> rfl
