section MFinds
variable {σ : Sg} {I I' J I1 I2 : Nat → Nat → Int32} {L L' L1 L2 : Nat → Nat → Int64}
theorem kq_gap {T N : Nat → Nat} {k : Nat} {wn : Bool} {n m : Nat} (h : n ≤ m) (hz : ∀ d, n ≤ d → d < m → kv (fre T N) d = false) : cntB (kq T N k wn) m = cntB (kq T N k wn) n := cnt_gap h fun d h1 h2 => by
  unfold kq; rw [hz d h1 h2]; rfl
end MFinds
