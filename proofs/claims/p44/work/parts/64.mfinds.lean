section MFinds
variable {σ : Sg} {I I' J I1 I2 : Nat → Nat → Int32} {L L' L1 L2 : Nat → Nat → Int64}
/-- what the model has found, as far as pairs below c -/
def FM (T N : Nat → Nat) (k : Nat) (wn : Bool) (tg : Int32) (I : Nat → Nat → Int32) (c : Nat) (ρ : Nat → Int32) : Prop :=
  (∀ j, j ≠ 31 → j ≠ 32 → ρ j = I 433 j) ∧ ∀ d, d < c → kq T N k wn d = true → nI (cntB (kq T N k wn) d) = tg → ρ 31 = nI (kf d) ∧ ρ 32 = nI (ks d)
theorem FM.gap {T N : Nat → Nat} {k : Nat} {wn : Bool} {tg : Int32} {c e : Nat} {ρ : Nat → Int32} (h : FM T N k wn tg I c ρ) (hz : ∀ d, c ≤ d → d < e → kv (fre T N) d = false) : FM T N k wn tg I e ρ := by
  refine ⟨h.1, fun d hd hq ht => ?_⟩
  by_cases q : d < c
  · exact h.2 d q hq ht
  · unfold kq at hq
    rw [hz d (by omega) hd] at hq
    cases hq
theorem kq_gap {T N : Nat → Nat} {k : Nat} {wn : Bool} {n m : Nat} (h : n ≤ m) (hz : ∀ d, n ≤ d → d < m → kv (fre T N) d = false) : cntB (kq T N k wn) m = cntB (kq T N k wn) n := cnt_gap h fun d h1 h2 => by
  unfold kq; rw [hz d h1 h2]; rfl
end MFinds
