section Q9
variable {σ : Sg} {I I' I1 I2 : Nat → Nat → Int32} {L L' L1 L2 : Nat → Nat → Int64}
/-- sums, sorted by the first of a kind -/
theorem fo_sm (g : Nat → Nat) (p : Nat → Bool) : ∀ n, fo (fun s w => s + g w) p 0 n = sm g p n
  | 0 => rfl
  | n + 1 => by
    rw [foS, smS, fo_sm g p n]
    split <;> rfl
theorem sm_add {g g' : Nat → Nat} {p : Nat → Bool} : ∀ n, sm (fun w => g w + g' w) p n = sm g p n + sm g' p n
  | 0 => rfl
  | n + 1 => by
    rw [smS, smS, smS, sm_add n]
    split <;> omega
theorem sm_0 {g : Nat → Nat} {p : Nat → Bool} : ∀ {n}, (∀ w, w < n → p w = true → g w = 0) → sm g p n = 0
  | 0, _ => rfl
  | n + 1, h => by
    rw [smS, sm_0 (n := n) fun w hw => h w (by omega)]
    split
    · rename_i hp; rw [h n (by omega) hp]
    · rfl
theorem sm_one {g : Nat → Nat} {p : Nat → Bool} {v : Nat} (hv : p v = true) : ∀ {n}, v < n → (∀ w, w < n → p w = true → w ≠ v → g w = 0) → sm g p n = g v
  | 0, h, _ => absurd h (Nat.not_lt_zero _)
  | n + 1, h, hz => by
    rw [smS]
    by_cases e : v = n
    · subst e
      rw [if_pos hv, sm_0 fun w hw hp => hz w (by omega) hp (by omega), Nat.zero_add]
    · rw [sm_one hv (n := n) (by omega) fun w hw => hz w (by omega)]
      split
      · rename_i hp; rw [hz n (by omega) hp (Ne.symm e)]; rfl
      · rfl
theorem sm_congr {g g' : Nat → Nat} {p : Nat → Bool} : ∀ {n}, (∀ w, w < n → p w = true → g w = g' w) → sm g p n = sm g' p n
  | 0, _ => rfl
  | n + 1, h => by
    rw [smS, smS, sm_congr (n := n) fun w hw => h w (by omega)]
    split
    · rename_i hp; rw [h n (by omega) hp]
    · rfl
theorem sm_sort {T N : Nat → Nat} (a : Nat → Nat) : ∀ n, n ≤ 256 → sm (fun w => a (ws T N w) * sm (wg T) (lk T N w) n) (isF T N) 256 = sm (fun w => a (ws T N w) * wg T w) (lft T N) n
  | 0, _ => sm_0 fun w _ _ => Nat.mul_zero _
  | n + 1, hn => by
    have ih := sm_sort (T := T) (N := N) a n (by omega)
    have e : sm (fun w => a (ws T N w) * sm (wg T) (lk T N w) (n + 1)) (isF T N) 256 = sm (fun w => a (ws T N w) * sm (wg T) (lk T N w) n + a (ws T N w) * (if lk T N w n = true then wg T n else 0)) (isF T N) 256 :=
      sm_congr fun w _ _ => by rw [smS, Nat.mul_add]
    rw [e, sm_add (g := fun w => a (ws T N w) * sm (wg T) (lk T N w) n) (g' := fun w => a (ws T N w) * (if lk T N w n = true then wg T n else 0)), ih, smS (fun w => a (ws T N w) * wg T w) (lft T N) n]
    suffices key : sm (fun w => a (ws T N w) * (if lk T N w n = true then wg T n else 0)) (isF T N) 256 = (if lft T N n = true then a (ws T N n) * wg T n else 0) by rw [key]
    cases hl : lft T N n
    · rw [if_neg (by decide)]
      refine sm_0 fun w _ _ => ?_
      have : lk T N w n = false := by unfold lk; rw [hl]; rfl
      rw [this, if_neg (by decide), Nat.mul_zero]
    · rw [if_pos rfl]
      obtain ⟨v, v1, v2, v3⟩ := isF_ex (T := T) (N := N) (n := n) (w := n) (Nat.le_refl _) hl
      rw [sm_one (g := fun w => a (ws T N w) * (if lk T N w n = true then wg T n else 0)) v2 (show v < 256 by omega) fun w hw hp hne => ?_]
      · show a (ws T N v) * (if lk T N v n = true then wg T n else 0) = _
        have : lk T N v n = true := by unfold lk; rw [hl, decide_eq_true v3.symm]; rfl
        rw [this, if_pos rfl, v3]
      · show a (ws T N w) * (if lk T N w n = true then wg T n else 0) = 0
        have : lk T N w n = false := by
          unfold lk
          rw [decide_eq_false (fun z => hne (isF_inj hp v2 (by rw [v3, z]))), Bool.and_false]
        rw [this, if_neg (by decide), Nat.mul_zero]
end Q9
