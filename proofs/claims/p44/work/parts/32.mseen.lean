section MSEEN
variable {σ : Sg} {I : Nat → Nat → Int32} {L : Nat → Nat → Int64}
/-- never yes and no at once -/
def excl (h : Nat) (v : VP) : Prop := ∀ i, i < h → ((v i).1 && (v i).2) = false
theorem cnt_excl (f g : Nat → Bool) (m : Nat) (h : ∀ i, i < m → (f i && g i) = false) : cntB f m + cntB g m + cntB (fun i => !f i && !g i) m = m := by
  induction m with
  | zero => rfl
  | succ m ih =>
    simp only [cntB]
    have := ih fun i hi => h i (by omega)
    have h2 := h m (by omega)
    by_cases h3 : f m = true <;> by_cases h4 : g m = true <;> simp [h3, h4] at h2 ⊢ <;> omega
theorem excl_stp {q : VP} (hq : ∀ f, ((q f).1 && (q f).2) = false) {c h : Nat} {v : VP} (hok' : hok c h = true) (hv : excl h v) : excl (hst c h) (stp q c (h, v)).2 := by
  intro i hi
  unfold hok at hok'
  unfold hst at hi
  unfold stp
  by_cases k0 : c / 100 = 0
  · rw [if_pos k0] at hi hok' ⊢
    simp only [updA_at]
    by_cases e : i = h
    · rw [if_pos e]; exact hq _
    · rw [if_neg e]; exact hv i (by omega)
  · rw [if_neg k0] at hi hok' ⊢
    by_cases k1 : c / 100 = 1
    · rw [if_pos k1] at hi hok' ⊢
      have hf := of_decide_eq_true hok'
      simp only [updA_at]
      by_cases e : i = h - 1
      · rw [if_pos e]; have := hv (h - 1) (by omega); simp only; rw [Bool.and_comm]; exact this
      · rw [if_neg e]; exact hv i (by omega)
    · rw [if_neg k1] at hi hok' ⊢
      by_cases k4 : c / 100 = 4
      · rw [if_pos k4] at hi hok' ⊢
        have hf := of_decide_eq_true hok'
        simp only [updA_at]
        by_cases e : i = h - c % 10
        · rw [if_pos e]
          have := cnt_excl (fun i => (v (h - c % 10 + i)).1) (fun i => (v (h - c % 10 + i)).2) (c % 10) (fun i hi => hv _ (by omega))
          simp only [Bool.and_eq_false_iff, decide_eq_false_iff_not]
          omega
        · rw [if_neg e]; exact hv i (by omega)
      · rw [if_neg k4] at hi hok' ⊢
        have hf := of_decide_eq_true hok'
        have h1 := hv (h - 1) (by omega)
        have h2 := hv (h - 2) (by omega)
        by_cases k2 : c / 100 = 2
        · rw [if_pos k2]
          simp only [updA_at]
          by_cases e : i = h - 2
          · rw [if_pos e]
            revert h1 h2
            simp only
            cases (v (h - 1)).1 <;> cases (v (h - 1)).2 <;> cases (v (h - 2)).1 <;> cases (v (h - 2)).2 <;> decide
          · rw [if_neg e]; exact hv i (by omega)
        · rw [if_neg k2]
          simp only [updA_at]
          by_cases e : i = h - 2
          · rw [if_pos e]
            revert h1 h2
            simp only
            cases (v (h - 1)).1 <;> cases (v (h - 1)).2 <;> cases (v (h - 2)).1 <;> cases (v (h - 2)).2 <;> decide
          · rw [if_neg e]; exact hv i (by omega)
def c3v (v : Bool × Bool) : Int32 := nI (code3 v)
def pile3 (P : Nat → Int32) (h : Nat) (v : VP) : Prop := ∀ i, i < h → P i = c3v (v i)
theorem cI1 (v : Bool × Bool) (h : (v.1 && v.2) = false) : (c3v v = 1) = (v.1 = true) := by
  have k : ∀ a b : Bool, (a && b) = false → (c3v (a, b) = 1 ↔ a = true) := by decide +kernel
  exact propext (k v.1 v.2 h)
theorem cI2 (v : Bool × Bool) (h : (v.1 && v.2) = false) : (c3v v = 2) = ((!v.1 && !v.2) = true) := by
  have k : ∀ a b : Bool, (a && b) = false → (c3v (a, b) = 2 ↔ (!a && !b) = true) := by decide +kernel
  exact propext (k v.1 v.2 h)
/-- how an EXPR is seen by what a COUNT alleges -/
def sen (T : Nat → Nat) (e S So : Nat) : Nat := code3 (evP (qs S So) (cT T) (T (84 + e)) (T (117 + e)))
end MSEEN
