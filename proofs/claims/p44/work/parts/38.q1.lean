/-! QUERIES: what they may write, and their answers on both sides -/
def scC (a : Nat) : Prop := (108 ≤ a ∧ a ≤ 111) ∨ (415 ≤ a ∧ a ≤ 432 ∧ a ≠ 421)
def FrC (I : Nat → Nat → Int32) (L : Nat → Nat → Int64) (I' : Nat → Nat → Int32) (L' : Nat → Nat → Int64) : Prop := ∀ a, ¬ scC a → I' a = I a ∧ L' a = L a
section FR
variable {σ : Sg} {I I' : Nat → Nat → Int32} {L L' : Nat → Nat → Int64}
theorem FrC.rf : FrC I L I L := fun a _ => ⟨rfl, rfl⟩
theorem FrC.upI (h : FrC I L I' L') {a : Nat} (r : Nat → Int32) (ha : scC a) : FrC I L (rowUp I' a r) L' := fun b hb => ⟨by rw [rowUp_at, if_neg (fun e : b = a => hb (by rw [e]; exact ha))]; exact (h b hb).1, (h b hb).2⟩
theorem FrC.upL (h : FrC I L I' L') {a : Nat} (r : Nat → Int64) (ha : scC a) : FrC I L I' (rowUp L' a r) := fun b hb => ⟨(h b hb).1, by rw [rowUp_at, if_neg (fun e : b = a => hb (by rw [e]; exact ha))]; exact (h b hb).2⟩
theorem CR.fr {T N : Nat → Nat} (h : CR σ I L T N) (f : FrC I L I' L') : CR σ I' L' T N := by
  obtain ⟨⟨h1, h2, h3⟩, h4, h5, h6, h7⟩ := h
  have hn : ∀ j, j < 78 → I' (gla σ + j) = I (gla σ + j) := fun j hj => (f _ (by unfold scC; omega)).1
  have hn0 : I' (gla σ) = I (gla σ) := hn 0 (by omega)
  have hl : ∀ j, j < 78 → L' (gla σ + j) = L (gla σ + j) := fun j hj => (f _ (by unfold scC; omega)).2
  have hl2 : ∀ j, j < 61 → L' (gla σ + 17 + j) = L (gla σ + 17 + j) := fun j hj => (f _ (by unfold scC; omega)).2
  have hs : ∀ j, j < 7 → I' (gsa σ + j) = I (gsa σ + j) := fun j hj => (f _ (by unfold scC; omega)).1
  have hs0 : I' (gsa σ) = I (gsa σ) := hs 0 (by omega)
  refine ⟨⟨h1, h2, fun k hk' => by rw [(f 2 (by unfold scC; omega)).2]; exact h3 k hk'⟩, h4, h5, ?_, ?_⟩
  · obtain ⟨b1, b2, b3, b4, b5, b6, b7⟩ := h6
    refine ⟨by rw [hn0]; exact b1, fun i hi => by rw [hn 1 (by omega)]; exact b2 i hi, fun k hk' => ?_, fun p hp => ?_, fun i hi => by rw [hn 7 (by omega)]; exact b5 i hi, fun i hi => by rw [hn 10 (by omega)]; exact b6 i hi, by rw [hl 12 (by omega)]; exact b7⟩
    · obtain ⟨c1, c2, c3, c4⟩ := b3 k hk'
      have w2 := h4.1.2.2.1
      have b26 := (h4.2.2.1 k hk').2.2.1
      refine ⟨by rw [hn 3 (by omega)]; exact c1, by rw [hn 6 (by omega)]; exact c2, by rw [hl2 _ (by omega)]; exact c3, fun i hi => ?_⟩
      obtain ⟨d1, d2, d3⟩ := c4 i hi
      exact ⟨by rw [hn 8 (by omega)]; exact d1, by rw [hn 9 (by omega)]; exact d2, by rw [hl2 _ (by omega)]; exact d3⟩
    · obtain ⟨c1, c2, c3, c4⟩ := b4 p hp
      have w4 := h4.1.2.2.2.2.1
      exact ⟨by rw [hn 4 (by omega)]; exact c1, by rw [hn 8 (by omega)]; exact c2, by rw [hn 9 (by omega)]; exact c3, by rw [hl2 _ (by omega)]; exact c4⟩
  · unfold CSt at h7 ⊢
    rw [hs0, hs 1 (by omega), hs 2 (by omega), hs 3 (by omega), hs 4 (by omega), hs 5 (by omega), hs 6 (by omega)]
    exact h7
theorem tsw_n {α : Type} {j : Nat} (hj : j < 2147483648) (l : List α) (d : α) : tsw (nI j) 0 l d = l.getD j d := by
  unfold tsw; rw [nI_toInt hj, if_neg (by omega)]; congr 1
theorem td0 {α : Type} (x0 : α) (l : List α) (d : α) : (x0 :: l).getD 0 d = x0 := rfl
theorem td1 {α : Type} (x0 x1 : α) (l : List α) (d : α) : (x0 :: x1 :: l).getD 1 d = x1 := rfl
theorem td2 {α : Type} (x0 x1 x2 : α) (l : List α) (d : α) : (x0 :: x1 :: x2 :: l).getD 2 d = x2 := rfl
theorem td3 {α : Type} (x0 x1 x2 x3 : α) (l : List α) (d : α) : (x0 :: x1 :: x2 :: x3 :: l).getD 3 d = x3 := rfl
theorem td4 {α : Type} (x0 x1 x2 x3 x4 : α) (l : List α) (d : α) : (x0 :: x1 :: x2 :: x3 :: x4 :: l).getD 4 d = x4 := rfl
theorem td5 {α : Type} (x0 x1 x2 x3 x4 x5 : α) (l : List α) (d : α) : (x0 :: x1 :: x2 :: x3 :: x4 :: x5 :: l).getD 5 d = x5 := rfl
theorem td6 {α : Type} (x0 x1 x2 x3 x4 x5 x6 : α) (l : List α) (d : α) : (x0 :: x1 :: x2 :: x3 :: x4 :: x5 :: x6 :: l).getD 6 d = x6 := rfl
theorem td7 {α : Type} (x0 x1 x2 x3 x4 x5 x6 x7 : α) (l : List α) (d : α) : (x0 :: x1 :: x2 :: x3 :: x4 :: x5 :: x6 :: x7 :: l).getD 7 d = x7 := rfl
theorem td8 {α : Type} (x0 x1 x2 x3 x4 x5 x6 x7 x8 : α) (l : List α) (d : α) : (x0 :: x1 :: x2 :: x3 :: x4 :: x5 :: x6 :: x7 :: x8 :: l).getD 8 d = x8 := rfl
theorem td9 {α : Type} (x0 x1 x2 x3 x4 x5 x6 x7 x8 x9 : α) (l : List α) (d : α) : (x0 :: x1 :: x2 :: x3 :: x4 :: x5 :: x6 :: x7 :: x8 :: x9 :: l).getD 9 d = x9 := rfl
theorem td10 {α : Type} (x0 x1 x2 x3 x4 x5 x6 x7 x8 x9 x10 : α) (l : List α) (d : α) : (x0 :: x1 :: x2 :: x3 :: x4 :: x5 :: x6 :: x7 :: x8 :: x9 :: x10 :: l).getD 10 d = x10 := rfl
theorem tdN {α : Type} {l : List α} {d : α} {j : Nat} (h : l.length ≤ j) : l.getD j d = d := by
  rw [List.getD_eq_getElem?_getD, List.getElem?_eq_none h]; rfl
theorem tsw_neg {α : Type} {x : Int32} (h : x < 0) (l : List α) (d : α) : tsw x 0 l d = d := by
  unfold tsw
  have := Int32.lt_iff_toInt_lt.mp h
  rw [if_pos (by simpa using this)]
theorem cisFact_ok {T N : Nat → Nat} (h : CR σ I L T N) (x : Int32) : mX11_isFact 100 x (hk σ I L) = some (bI (decide (0 ≤ x.toInt ∧ x.toInt < T 1))) := by
  have hla := h.1.1
  have h8 := h.2.1.1.2.1
  unfold mX11_isFact
  rw [if_pos s100]
  rcases ix_cases x with hx | ⟨j, hj, rfl⟩
  · have := Int32.lt_iff_toInt_lt.mp hx
    have h0 : (0 : Int32).toInt = 0 := rfl
    rw [if_pos hx, decide_eq_false (by omega)]; rfl
  · rw [if_neg (nI_pos hj), gLa, gI_la hla, obind, h.2.2.2.1.1.2.1, c_ltd hj (by omega), nI_toInt hj]
    by_cases e : j < T 1
    · rw [if_pos e, decide_eq_true (by omega)]; rfl
    · rw [if_neg e, decide_eq_false (by omega)]; rfl
theorem cisCount_ok {T N : Nat → Nat} (h : CR σ I L T N) (x : Int32) : mX11_isCount 100 x (hk σ I L) = some (bI (decide (0 ≤ x.toInt ∧ x.toInt < N 18))) := by
  have hsa := h.1.2.1
  have h8 := h.2.2.1.2.2.2.1.2
  unfold mX11_isCount
  rw [if_pos s100]
  rcases ix_cases x with hx | ⟨j, hj, rfl⟩
  · have := Int32.lt_iff_toInt_lt.mp hx
    have h0 : (0 : Int32).toInt = 0 := rfl
    rw [if_pos hx, decide_eq_false (by omega)]; rfl
  · rw [if_neg (nI_pos hj), gSa, gI_st hsa, obind, h.2.2.2.2.1.2.2.1, c_ltd hj (by omega), nI_toInt hj]
    by_cases e : j < N 18
    · rw [if_pos e, decide_eq_true (by omega)]; rfl
    · rw [if_neg e, decide_eq_false (by omega)]; rfl
/-- what an index is: one of n, or none -/
theorem ixn (x : Int32) (n : Nat) (hn : n < 1000) : (∃ j, j < n ∧ x = nI j ∧ decide (0 ≤ x.toInt ∧ x.toInt < (n : Int)) = true) ∨ decide (0 ≤ x.toInt ∧ x.toInt < (n : Int)) = false := by
  cases hd : decide (0 ≤ x.toInt ∧ x.toInt < (n : Int))
  · exact Or.inr rfl
  · refine Or.inl ?_
    have h1 := of_decide_eq_true hd
    rcases ix_cases x with hx | ⟨j, hj, rfl⟩
    · have := Int32.lt_iff_toInt_lt.mp hx
      have h0 : (0 : Int32).toInt = 0 := rfl
      omega
    · rw [nI_toInt hj] at h1
      exact ⟨j, by omega, rfl, rfl⟩
theorem howIs_ok {T N : Nat → Nat} (h : CR σ I L T N) {f : Nat} (hf : f < 8) : mX5_howIs (gsa σ) (nI f) (hk σ I L) = some (nI (N f)) := by
  have hsa := h.1.2.1
  have h0 : (hpS (hk σ I L) (gsa σ)).1 = 6 := by rw [hpS_hk, SH_st0 hsa]
  obtain ⟨_, _, _, _, s4, s5, s6, s7, _⟩ := h.2.2.2.2.1
  have b4 := (h.2.2.1.1 f hf).1
  have hh : ∀ c, mX11_has (nI (bs (fun f => decide (N f = c)) 8)) (nI f) = some (bI (decide (N f = c))) := fun c => by
    have := bs_lt (fun f => decide (N f = c)) 8
    rw [has_nI (by omega) (by omega), bs_bit, decide_eq_true hf, Bool.true_and]
  unfold mX5_howIs
  rw [if_pos h0, gI_st hsa, obind, s4, hh, obind, bI_if0, gI_st hsa, obind, s5, hh, obind, bI_if0, gI_st hsa, obind, s6, hh, obind, bI_if0, gI_st hsa, obind, s7, hh, obind, bI_if0]
  rcases (show N f = 0 ∨ N f = 1 ∨ N f = 2 ∨ N f = 3 ∨ N f = 4 by omega) with e | e | e | e | e <;> rw [e] <;> rfl
def sayB (N : Nat → Nat) (f k : Nat) : Bool := (it N k 4).testBit f
theorem csayers_ok {T N : Nat → Nat} (h : CR σ I L T N) {f : Nat} (hf : f < 8) : mX5_sayers (gsa σ) (nI f) (hk σ I L) = some (nI (bs (sayB N f) (N 18))) := by
  have hsa := h.1.2.1
  have hbk := h.2.2.1.bkH h.2.1
  have h0 : (hpS (hk σ I L) (gsa σ)).1 = 6 := by rw [hpS_hk, SH_st0 hsa]
  unfold mX5_sayers
  rw [if_pos h0]
  unfold mX5_sayers_l4
  refine lp_traj (f := fun s : Int32 × Int32 => mX5_sayers_l4f (gsa σ) (nI f) (hk σ I L) s.1 s.2) (N 18) (fun i => (nI (bs (sayB N f) i), nI i)) _ (fun i hi => ?_) ?_
  · show mX5_sayers_l4f (gsa σ) (nI f) (hk σ I L) (nI (bs (sayB N f) i)) (nI i) = _
    have h256 := (hbk.2.1 i hi).1
    unfold mX5_sayers_l4f mX5_sayers_b33
    rw [gI_st hsa, obind, h.2.2.2.2.1.2.2.1, c_lt hi (by have := hbk.1; omega), gR_st hsa, obind, RF_st_13 σ hsa, at_r (SH_st5 hsa) (by have := hbk.1; omega) (by omega), obind, (h.2.2.2.2.2 i hi).2.2.2.2.1, has_nI (by omega) (by omega), obind, bI_if0, shl1 (by have := hbk.1; omega), nx_or, nI_1]
    simp only [bs]
    show (if sayB N f i = false then _ else _) = _
    cases sayB N f i <;> simp
  · show mX5_sayers_l4f (gsa σ) (nI f) (hk σ I L) (nI (bs (sayB N f) (N 18))) (nI (N 18)) = _
    unfold mX5_sayers_l4f
    rw [gI_st hsa, obind, h.2.2.2.2.1.2.2.1, c_nlt (Nat.le_refl _) (by have := hbk.1; omega), xts]
end FR
