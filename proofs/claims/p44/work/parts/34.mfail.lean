section MFAIL
variable {σ : Sg} {I : Nat → Nat → Int32} {L : Nat → Nat → Int64}
theorem bk_one {N B : Nat → Nat} {k : Nat} (hk' : k ≤ N 18) (hm : ∀ o, k ≤ o → o < N 18 → it N k 1 ≤ it N o 1) (hB : ∀ o, o < k → B o = bk N o) : bkF B N k (it N k 4) (N 18) = bk N k := by
  rw [bkF_cut hk' hm, bk_eq]
  exact bkF_congr fun o ho _ => hB o ho
def bkH (N : Nat → Nat) : Prop := N 18 ≤ 8 ∧ (∀ o, o < N 18 → it N o 4 < 256 ∧ it N o 1 ≤ 9999) ∧ ∀ k o, k ≤ o → o < N 18 → it N k 1 ≤ it N o 1
def mI (o : Option Nat) (g : Nat → Bool) : Bool := match o with
  | some p => g p
  | none => false
theorem mI_some (p : Nat) (g : Nat → Bool) : mI (some p) g = g p := rfl
theorem ith_any (q g : Nat → Bool) (n : Nat) : anyB (fun i => mI (ith q n i) g) (cntB q n) = anyB (fun p => q p && g p) n := by
  apply Bool.eq_iff_iff.mpr
  rw [anyB_iff, anyB_iff]
  constructor
  · rintro ⟨i, hi, h⟩
    cases hp : ith q n i with
    | none => rw [hp] at h; cases h
    | some p =>
      rw [hp] at h
      obtain ⟨h1, h2, _⟩ := fstB_some.mp hp
      refine ⟨p, h1, ?_⟩
      simp only [Bool.and_eq_true] at h2 ⊢
      exact ⟨h2.1, h⟩
  · rintro ⟨p, hp, h⟩
    simp only [Bool.and_eq_true] at h
    have hlt : cntB q p < cntB q n := by
      have := cntB_mono q (show p + 1 ≤ n by omega)
      simp only [cntB] at this
      rw [h.1] at this; simp at this; omega
    refine ⟨cntB q p, hlt, ?_⟩
    have : ith q n (cntB q p) = some p := fstB_some.mpr ⟨hp, by rw [h.1]; simp, fun j hj => by
      cases hq : q j
      · rfl
      · have := cntB_mono q (show j + 1 ≤ p by omega)
        simp only [cntB] at this
        rw [hq] at this; simp at this ⊢; omega⟩
    rw [this]; exact h.2
theorem sure_lt {T : Nat → Nat} {f : Nat → Bool} {e : Nat} (hf : ∀ w, f w = true → w < 2 ^ T 1) : allB (fun w => !f w || (decide (w < 2 ^ T 1) && ev T e w)) 256 = sure T f e := by
  unfold sure
  apply allB_congr
  intro w hw
  cases h : f w
  · rfl
  · rw [decide_eq_true (hf w h)]; rfl
theorem agr_lt {T : Nat → Nat} {F S w : Nat} (h : agr T F S w = true) : w < 2 ^ T 1 := by
  unfold agr poss at h
  simp only [Bool.and_eq_true, decide_eq_true_eq] at h
  exact h.1.1
theorem meets_lt {T : Nat → Nat} {f : Nat → Bool} {e : Nat} (hf : ∀ w, f w = true → w < 2 ^ T 1) : (cntB (fun w => f w && (decide (w < 2 ^ T 1) && ev T e w)) 256 = 0) ↔ meets T f e = false := by
  rw [cntB_0]
  have : anyB (fun w => f w && (decide (w < 2 ^ T 1) && ev T e w)) 256 = meets T f e := anyB_congr fun w hw => by
    cases h : f w
    · rfl
    · rw [decide_eq_true (hf w h)]; rfl
  rw [this]
end MFAIL
