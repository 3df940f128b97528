section R3
variable {x : Cx} {pc : Nat} {lv : List (Nat × Value)} {st : List Value} {h : Hp} {ρ : Type} {K : Option ρ} {T : ρ → Prop}
/-- a way that isn't gone -/
theorem j_ng {c : Prop} [Decidable c] (k : ¬ c → J x pc lv st h K T) : J x pc lv st h (if c then none else K) T := by
  by_cases hc : c
  · rw [if_pos hc]; intro r hr; cases hr
  · rw [if_neg hc]; exact k hc
end R3
