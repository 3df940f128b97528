section Hist
variable {σ : Sg} {I I' J I1 I2 : Nat → Nat → Int32} {L L' L1 L2 : Nat → Nat → Int64}
theorem st_apart {s s' : Nat} (h : isSt s) (h' : isSt s') (hne : s ≠ s') : s + 7 ≤ s' ∨ s' + 7 ≤ s := by
  unfold isSt at h h'
  omega
theorem sSt {s : Nat} (h : isSt s) : (hpS (hk σ I L) s).1 = 6 := by rw [hpS_hk, SH_st0 h]
theorem cpG {s s' : Nat} {r : Nat → Int32} (k : Nat) (hs : isSt s) (hne : s ≠ s') : gI 5 k s (hk σ (rowUp I s' r) L) = some (I s k) := by rw [gI_st hs, rowUp_ne _ _ hne]
theorem cpS {s' : Nat} {r : Nat → Int32} (k : Nat) (v : Int32) (hs' : isSt s') : sI 5 k s' v (hk σ (rowUp I s' r) L) = some (hk σ (rowUp I s' (updA r k v)) L) := by
  rw [sI_ok (sSt hs'), setI_hk, rowUp_two, hpI_hk', rowUp_same]
theorem cpZ {s' : Nat} {r : Nat → Int32} (k : Nat) {v : Int32} (hs' : isSt s') (hv : v = 0 ∨ v = 1) : sZ 5 k s' v (hk σ (rowUp I s' r) L) = some (hk σ (rowUp I s' (updA r k v)) L) := by
  rw [sZ_ok (sSt hs') hv, setI_hk, rowUp_two, hpI_hk', rowUp_same]
theorem sz1 {s : Nat} (h : isSt s) : hpS (hk σ I L) (s + 1) = (50, 8) := SH_st1 (n := gN σ) h
theorem sz2 {s : Nat} (h : isSt s) : hpS (hk σ I L) (s + 2) = (50, 8) := SH_st2 (n := gN σ) h
theorem sz3 {s : Nat} (h : isSt s) : hpS (hk σ I L) (s + 3) = (50, 8) := SH_st3 (n := gN σ) h
theorem sz4 {s : Nat} (h : isSt s) : hpS (hk σ I L) (s + 4) = (50, 8) := SH_st4 (n := gN σ) h
theorem sz5 {s : Nat} (h : isSt s) : hpS (hk σ I L) (s + 5) = (50, 8) := SH_st5 (n := gN σ) h
theorem sz6 {s : Nat} (h : isSt s) : hpS (hk σ I L) (s + 6) = (50, 8) := SH_st6 (n := gN σ) h
/-- one of the six rows -/
def cpr (I : Nat → Nat → Int32) (a b : Nat) : Nat → Int32 := fun k => if k < 8 then I a k else I b k
theorem cpR {a b : Nat} (ha : hpS (hk σ I L) a = (50, 8)) (hb : hpS (hk σ I L) b = (50, 8)) (hne : a ≠ b) : mX11_copyRow a b (hk σ I L) = some (hk σ (rowUp I b (cpr I a b)) L) := by
  rw [copyRow_ok ha hb hne (by omega), setI_hk]; rfl
def cpI (I : Nat → Nat → Int32) (s s' : Nat) : Nat → Nat → Int32 := fun a =>
  if a = s' then (fun k => if k < 9 then I s k else I s' k) else if s' < a ∧ a < s' + 7 then cpr I (s + (a - s')) a else I a
theorem copy_st {s s' : Nat} (hs : isSt s) (hs' : isSt s') (hne : s ≠ s') (hz : I s 1 = 0 ∨ I s 1 = 1) : mX5_copy s' s (hk σ I L) = some (hk σ (cpI I s s') L) := by
  have ap := st_apart hs hs' hne
  obtain ⟨R, hR⟩ : ∃ R, R = updA (updA (updA (updA (updA (updA (updA (updA (updA (I s') 0 (I s 0)) 1 (I s 1)) 2 (I s 2)) 3 (I s 3)) 4 (I s 4)) 5 (I s 5)) 6 (I s 6)) 7 (I s 7)) 8 (I s 8) := ⟨_, rfl⟩
  have e : mX5_copy s' s (hk σ I L) = some (hk σ (rowUp (rowUp (rowUp (rowUp (rowUp (rowUp (rowUp I s' R) (s' + 1) (cpr I (s + 1) (s' + 1))) (s' + 2) (cpr I (s + 2) (s' + 2))) (s' + 3) (cpr I (s + 3) (s' + 3))) (s' + 4) (cpr I (s + 4) (s' + 4))) (s' + 5) (cpr I (s + 5) (s' + 5))) (s' + 6) (cpr I (s + 6) (s' + 6))) L) := by
    unfold mX5_copy
    rw [if_pos (sSt hs')]
    conv => lhs; rw [show hk σ I L = hk σ (rowUp I s' (I s')) L by rw [rowUp_id]]
    rw [cpG 0 hs hne, obind, cpS 0 _ hs', obind, cpG 1 hs hne, obind, cpZ 1 hs' hz, obind, cpG 2 hs hne, obind, cpS 2 _ hs', obind, cpG 3 hs hne, obind, cpS 3 _ hs', obind, cpG 4 hs hne, obind, cpS 4 _ hs', obind, cpG 5 hs hne, obind, cpS 5 _ hs', obind, cpG 6 hs hne, obind, cpS 6 _ hs', obind, cpG 7 hs hne, obind, cpS 7 _ hs', obind, cpG 8 hs hne, obind, cpS 8 _ hs', obind, ← hR]
    have q1 : ∀ (J : Nat → Nat → Int32) a b, J a = I a → J b = I b → cpr J a b = cpr I a b := fun J a b h1 h2 => by unfold cpr; rw [h1, h2]
    rw [gR_st hs, obind, RF_st_9 σ hs, gR_st hs', obind, RF_st_9 σ hs', cpR (sz1 hs) (sz1 hs') (by omega), obind, q1 _ (s + 1) (s' + 1) (by simp (disch := omega) only [rowUp_ne]) (by simp (disch := omega) only [rowUp_ne])]
    rw [gR_st hs, obind, RF_st_10 σ hs, gR_st hs', obind, RF_st_10 σ hs', cpR (sz2 hs) (sz2 hs') (by omega), obind, q1 _ (s + 2) (s' + 2) (by simp (disch := omega) only [rowUp_ne]) (by simp (disch := omega) only [rowUp_ne])]
    rw [gR_st hs, obind, RF_st_11 σ hs, gR_st hs', obind, RF_st_11 σ hs', cpR (sz3 hs) (sz3 hs') (by omega), obind, q1 _ (s + 3) (s' + 3) (by simp (disch := omega) only [rowUp_ne]) (by simp (disch := omega) only [rowUp_ne])]
    rw [gR_st hs, obind, RF_st_12 σ hs, gR_st hs', obind, RF_st_12 σ hs', cpR (sz4 hs) (sz4 hs') (by omega), obind, q1 _ (s + 4) (s' + 4) (by simp (disch := omega) only [rowUp_ne]) (by simp (disch := omega) only [rowUp_ne])]
    rw [gR_st hs, obind, RF_st_13 σ hs, gR_st hs', obind, RF_st_13 σ hs', cpR (sz5 hs) (sz5 hs') (by omega), obind, q1 _ (s + 5) (s' + 5) (by simp (disch := omega) only [rowUp_ne]) (by simp (disch := omega) only [rowUp_ne])]
    rw [gR_st hs, obind, RF_st_14 σ hs, gR_st hs', obind, RF_st_14 σ hs', cpR (sz6 hs) (sz6 hs') (by omega), obind, q1 _ (s + 6) (s' + 6) (by simp (disch := omega) only [rowUp_ne]) (by simp (disch := omega) only [rowUp_ne])]
  rw [e]
  congr 2
  funext a
  unfold cpI
  by_cases h0 : a = s'
  · subst h0
    rw [if_pos rfl]
    simp (disch := omega) only [rowUp_ne, rowUp_same]
    rw [hR]
    funext k
    rcases (show k = 0 ∨ k = 1 ∨ k = 2 ∨ k = 3 ∨ k = 4 ∨ k = 5 ∨ k = 6 ∨ k = 7 ∨ k = 8 ∨ 9 ≤ k by omega) with rfl | rfl | rfl | rfl | rfl | rfl | rfl | rfl | rfl | hk9
    all_goals first | (rw [if_pos (by omega)]; simp (disch := omega) only [updA_ne, updA_same]) | (rw [if_neg (by omega)]; simp (disch := omega) only [updA_ne])
  · rw [if_neg h0]
    by_cases h1 : s' < a ∧ a < s' + 7
    · rw [if_pos h1]
      rcases (show a = s' + 1 ∨ a = s' + 2 ∨ a = s' + 3 ∨ a = s' + 4 ∨ a = s' + 5 ∨ a = s' + 6 by omega) with rfl | rfl | rfl | rfl | rfl | rfl
      all_goals (simp (disch := omega) only [rowUp_ne, rowUp_same]; rw [Nat.add_sub_cancel_left])
    · rw [if_neg h1]
      simp (disch := omega) only [rowUp_ne]
theorem cpI_out {s s' a : Nat} (h : a < s' ∨ s' + 7 ≤ a) : cpI I s s' a = I a := by
  unfold cpI; rw [if_neg (by omega), if_neg (by omega)]
theorem cpI_st {s s' : Nat} {N : Nat → Nat} (h18 : N 18 ≤ 8) (h : CSt I s N) : CSt (cpI I s s') s' N := by
  have r0 : ∀ k, k < 9 → cpI I s s' s' k = I s k := fun k hk9 => by unfold cpI; rw [if_pos rfl, if_pos hk9]
  have rj : ∀ j k, 1 ≤ j → j ≤ 6 → k < 8 → cpI I s s' (s' + j) k = I (s + j) k := fun j k h1 h2 h3 => by
    unfold cpI
    rw [if_neg (by omega), if_pos (by omega)]
    unfold cpr
    rw [if_pos h3, Nat.add_sub_cancel_left]
  obtain ⟨⟨a0, a1, a2, a3, a4, a5, a6, a7, a8⟩, hb⟩ := h
  refine ⟨⟨?_, ?_, ?_, ?_, ?_, ?_, ?_, ?_, ?_⟩, fun k hk' => ?_⟩
  · rw [r0 _ (by omega), a0]
  · rw [r0 _ (by omega), a1]
  · rw [r0 _ (by omega), a2]
  · rw [r0 _ (by omega), a3]
  · rw [r0 _ (by omega), a4]
  · rw [r0 _ (by omega), a5]
  · rw [r0 _ (by omega), a6]
  · rw [r0 _ (by omega), a7]
  · rw [r0 _ (by omega), a8]
  · obtain ⟨b1, b2, b3, b4, b5, b6⟩ := hb k hk'
    rw [rj 1 k (by omega) (by omega) (by omega), rj 2 k (by omega) (by omega) (by omega), rj 3 k (by omega) (by omega) (by omega), rj 4 k (by omega) (by omega) (by omega), rj 5 k (by omega) (by omega) (by omega), rj 6 k (by omega) (by omega) (by omega)]
    exact ⟨b1, b2, b3, b4, b5, b6⟩
/-- a state's rows alone -/
theorem CSt.eq {s : Nat} {N : Nat → Nat} (h : CSt I s N) (he : ∀ a, s ≤ a → a < s + 7 → I' a = I a) : CSt I' s N := by
  obtain ⟨⟨a0, a1, a2, a3, a4, a5, a6, a7, a8⟩, hb⟩ := h
  unfold CSt
  rw [he s (by omega) (by omega)]
  refine ⟨⟨a0, a1, a2, a3, a4, a5, a6, a7, a8⟩, fun k hk' => ?_⟩
  rw [he (s + 1) (by omega) (by omega), he (s + 2) (by omega) (by omega), he (s + 3) (by omega) (by omega), he (s + 4) (by omega) (by omega), he (s + 5) (by omega) (by omega), he (s + 6) (by omega) (by omega)]
  exact hb k hk'
theorem CSt.z01 {s : Nat} {N : Nat → Nat} (h : CSt I s N) (h16 : N 16 ≤ 1) : I s 1 = 0 ∨ I s 1 = 1 := by
  rw [h.1.2.1]
  rcases (show N 16 = 0 ∨ N 16 = 1 by omega) with q | q <;> rw [q]
  · exact Or.inl rfl
  · exact Or.inr rfl
end Hist
