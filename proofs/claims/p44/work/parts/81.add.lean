section Add
variable {σ : Sg} {I I' J I1 I2 I3 Ja : Nat → Nat → Int32} {L L' L1 L2 : Nat → Nat → Int64} {T N N' M : Nat → Nat} {a a' : Nat} {P P' : Nat → Nat → Nat} {K : Nat → Bool} {Q : Nat → Nat → Nat}
/-- a COUNT more -/
def fld (b dy w r li j : Nat) : Nat := if j = 0 then b else if j = 1 then dy else if j = 2 then w else if j = 3 then r else if j = 7 then li else 0
def adN (N : Nat → Nat) (li w r : Nat) : Nat → Nat := fun i => if i = 18 then N 18 + 1 else if 19 + 8 * N 18 ≤ i ∧ i < 27 + 8 * N 18 then fld (it N li 0) (N 17) w r li (i - (19 + 8 * N 18)) else N i
theorem adN_lo {li w r i : Nat} (h : i < 18) : adN N li w r i = N i := by unfold adN; rw [if_neg (by omega), if_neg (by omega)]
theorem adN_18 {li w r : Nat} : adN N li w r 18 = N 18 + 1 := by unfold adN; rw [if_pos rfl]
theorem adN_it {li w r k j : Nat} (hj : j < 8) : it (adN N li w r) k j = if k = N 18 then fld (it N li 0) (N 17) w r li j else it N k j := by
  unfold it adN
  rw [if_neg (by omega)]
  by_cases e : k = N 18
  · subst e
    rw [if_pos (by omega), if_pos rfl, Nat.add_sub_cancel_left]; rfl
  · rw [if_neg e]
    rw [if_neg (by omega)]
theorem EX.add {li w r : Nat} (h : EX T N) (h8 : N 18 < 8) (hl : li < N 18) (hw : w ≤ 999) (hr : r ≤ 999) : EX T (adN N li w r) := by
  have lh : lft T (adN N li w r) = lft T N := lft_hi fun i hi => adN_lo (by omega)
  obtain ⟨⟨g1, g2, g3, g4, g5, g6⟩, g7⟩ := h
  have gl := g5 li hl
  refine ⟨⟨fun f hf => ?_, by rw [adN_lo (by omega)]; exact g2, by rw [adN_lo (by omega)]; exact g3, by rw [adN_18]; omega, fun k hk' => ?_, by rw [lh]; exact g6⟩, fun hc f hf => ?_⟩
  · unfold kn; rw [adN_lo (by omega), adN_lo (by omega)]; exact g1 f hf
  · rw [adN_18] at hk'
    by_cases e : k = N 18
    · subst e
      have i7 : it (adN N li w r) (N 18) 7 = li := by rw [adN_it (by omega), if_pos rfl]; rfl
      have i0 : it (adN N li w r) (N 18) 0 = it N li 0 := by rw [adN_it (by omega), if_pos rfl]; rfl
      have il0 : it (adN N li w r) li 0 = it N li 0 := by rw [adN_it (by omega), if_neg (by omega)]
      have i1 : it (adN N li w r) (N 18) 1 = N 17 := by rw [adN_it (by omega), if_pos rfl]; rfl
      have i2 : it (adN N li w r) (N 18) 2 = w := by rw [adN_it (by omega), if_pos rfl]; rfl
      have i3 : it (adN N li w r) (N 18) 3 = r := by rw [adN_it (by omega), if_pos rfl]; rfl
      have i4 : it (adN N li w r) (N 18) 4 = 0 := by rw [adN_it (by omega), if_pos rfl]; rfl
      have i5 : it (adN N li w r) (N 18) 5 = 0 := by rw [adN_it (by omega), if_pos rfl]; rfl
      have i6 : it (adN N li w r) (N 18) 6 = 0 := by rw [adN_it (by omega), if_pos rfl]; rfl
      rw [i7, i0, il0, i1, i2, i3, i4, i5, i6, adN_lo (by omega)]
      refine ⟨gl.1, Nat.le_refl _, hw, hr, Nat.two_pow_pos _, rfl, by omega, by omega, rfl, fun q => by omega, fun _ => hl, fun j hj => ?_⟩
      rw [adN_it (by omega), if_neg (by omega)]
      exact (g5 j (by omega)).2.1
    · have hk2 : k < N 18 := by omega
      obtain ⟨b1, b2, b3, b4, b5, b6, b7, b8, b9, b10, b11, b12⟩ := g5 k hk2
      have ik : ∀ j, j < 8 → it (adN N li w r) k j = it N k j := fun j hj => by rw [adN_it hj, if_neg e]
      have ij : ∀ j, j < N 18 → it (adN N li w r) j 1 = it N j 1 := fun j hj => by rw [adN_it (by omega), if_neg (by omega)]
      have i70 : it (adN N li w r) (it N k 7) 0 = it N (it N k 7) 0 := by rw [adN_it (by omega), if_neg (by omega)]
      rw [ik 0 (by omega), ik 1 (by omega), ik 2 (by omega), ik 3 (by omega), ik 4 (by omega), ik 5 (by omega), ik 6 (by omega), ik 7 (by omega), i70, adN_lo (by omega)]
      exact ⟨b1, b2, b3, b4, b5, b6, b7, b8, b9, b10, b11, fun j hj => by rw [ij j (by omega)]; exact b12 j hj⟩
  · rw [adN_lo (by omega)] at hc
    rw [adN_lo (by omega)]; exact g7 hc f hf
end Add
