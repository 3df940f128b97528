section Q8
variable {σ : Sg} {I I' I1 I2 : Nat → Nat → Int32} {L L' L1 L2 : Nat → Nat → Int64}
theorem nI_nm1 {a : Nat} (ha : a < 2 ^ 31) : ¬ nI a = -1 := by
  intro e
  have h := congrArg Int32.toInt e
  rw [nI_toInt ha, show (-1 : Int32).toInt = -1 from by decide] at h; omega
theorem nI_gm1 {a : Nat} (ha : a < 2 ^ 31) : (-1 : Int32) < nI a := by
  rw [Int32.lt_iff_toInt_lt, nI_toInt ha, show (-1 : Int32).toInt = -1 from by decide]; omega
theorem nI_ngm1 {a : Nat} (ha : a < 2 ^ 31) : ¬ nI a < (-1 : Int32) := by
  rw [Int32.lt_iff_toInt_lt, nI_toInt ha, show (-1 : Int32).toInt = -1 from by decide]; omega
theorem mmax_m1 {a : Nat} (ha : a < 2 ^ 31) : mmax (nI a) (-1) = nI a := by
  unfold mmax
  split
  · rename_i h; exact absurd h (by first | exact nI_ngm1 ha | (intro z; exact absurd z (by rw [Int32.le_iff_toInt_le, nI_toInt ha, show (-1 : Int32).toInt = -1 from by decide]; omega)))
  · rfl
theorem mmax_1m {a : Nat} (ha : a < 2 ^ 31) : mmax (-1) (nI a) = nI a := by
  unfold mmax
  split
  · rfl
  · rename_i h; exact absurd (nI_gm1 ha) h
theorem fo_tr {S : Type} (st : S → Nat → S) (p : Nat → Bool) (z : S) (n : Nat) : ∃ (W : Nat → Nat) (F : Nat → S), F 0 = z ∧ (∀ i, i < cntB p n → F (i + 1) = st (F i) (W i) ∧ W i < n ∧ p (W i) = true ∧ cntB p (W i) = i) ∧ F (cntB p n) = fo st p z n ∧ ∀ i, ∃ m, F i = fo st p z m := by
  refine ⟨wi p n, fun i => fo st p z (wi p n i), fo_w0, fun i hi => ?_, fo_wn, fun i => ⟨_, rfl⟩⟩
  obtain ⟨a1, a2, a3⟩ := wi_ok (p := p) (n := n) (i := i) (by omega)
  exact ⟨fo_wi hi, (a3 hi).1, (a3 hi).2, a1⟩
theorem TaL.row {T N : Nat → Nat} (h : TaL T N I L 256) {i w : Nat} (hw : w < 256) (hp : isF T N w = true) (hi : cntB (isF T N) w = i) : I 427 i = nI (ws T N w) ∧ I 429 i = nI w ∧ I 428 i = nI (cntB (lk T N w) 256) ∧ L 430 i = lN (sm (wg T) (lk T N w) 256) := by
  have := h.2.1 _ hw hp
  rw [hi] at this; exact this
theorem fst_is {T N : Nat → Nat} {v w : Nat} (hv : v ≤ w) (h1 : isF T N v = true) (h2 : ws T N v = ws T N w) : (v = w) = (isF T N w = true) := by
  apply propext
  constructor
  · intro e; rw [← e]; exact h1
  · intro e; exact isF_inj h1 e h2
/-- award -/
def stA (T N : Nat → Nat) (o : Option (Nat × Nat × Nat)) (w : Nat) : Option (Nat × Nat × Nat) := match o with
  | none => some (aw T N (ws T N w), aw T N (ws T N w), w)
  | some (l, g, c) => some (min l (aw T N (ws T N w)), max g (aw T N (ws T N w)), if g < aw T N (ws T N w) then w else c)
def inA (T N : Nat → Nat) (o : Option (Nat × Nat × Nat)) (w : Nat) : Prop := ∃ l g c, o = some (l, g, c) ∧ l ≤ aw T N (ws T N w) ∧ aw T N (ws T N w) ≤ g
def eA (o : Option (Nat × Nat × Nat)) : Int32 × Int32 × Int32 := match o with
  | none => (nI 2147483647, -1, 0)
  | some (l, g, c) => (nI l, nI g, nI c)
def eM (o : Option (Nat × Nat × Nat)) : Int32 × Int32 × Int32 := match o with
  | none => (-1, -1, 0)
  | some (l, g, c) => (nI l, nI g, nI c)
theorem inA_1 {T N : Nat → Nat} (o : Option (Nat × Nat × Nat)) (w : Nat) : inA T N (stA T N o w) w := by
  rcases o with _ | ⟨l, g, c⟩
  · exact ⟨_, _, _, rfl, Nat.le_refl _, Nat.le_refl _⟩
  · exact ⟨_, _, _, rfl, Nat.min_le_right _ _, Nat.le_max_right _ _⟩
theorem inA_2 {T N : Nat → Nat} (o : Option (Nat × Nat × Nat)) (v w : Nat) (h : inA T N o v) : inA T N (stA T N o w) v := by
  obtain ⟨l, g, c, rfl, h1, h2⟩ := h
  exact ⟨_, _, _, rfl, Nat.le_trans (Nat.min_le_left _ _) h1, Nat.le_trans h2 (Nat.le_max_left _ _)⟩
theorem inA_3 {T N : Nat → Nat} (o : Option (Nat × Nat × Nat)) (v w : Nat) (e : ws T N v = ws T N w) (h : inA T N o v) : stA T N o w = o := by
  obtain ⟨l, g, c, rfl, h1, h2⟩ := h
  rw [e] at h1 h2
  show some (min l (aw T N (ws T N w)), max g (aw T N (ws T N w)), if g < aw T N (ws T N w) then w else c) = _
  rw [Nat.min_eq_left h1, Nat.max_eq_left h2, if_neg (by omega)]
def bdA (o : Option (Nat × Nat × Nat)) : Prop := match o with
  | none => True
  | some (l, g, _) => l ≤ 4995 ∧ g ≤ 4995
theorem stA_b {T N : Nat → Nat} (hW : WT T) (hN : WN T N) (p : Nat → Bool) : ∀ n, bdA (fo (stA T N) p none n)
  | 0 => trivial
  | n + 1 => by
    have ih := stA_b hW hN p n
    have ha := aw_le hW hN (ws T N n)
    rw [foS]
    generalize fo (stA T N) p none n = o at ih ⊢
    by_cases hp : p n = true
    · rw [if_pos hp]
      rcases o with _ | ⟨l, g, c⟩
      · exact ⟨ha, ha⟩
      · exact ⟨Nat.le_trans (Nat.min_le_right _ _) ha, Nat.max_le.mpr ⟨ih.2, ha⟩⟩
    · rw [if_neg hp]; exact ih
end Q8
