section Past
variable {σ : Sg} {I I' J I1 I2 : Nat → Nat → Int32} {L L' L1 L2 : Nat → Nat → Int64}
/-- states that were, and the ones kept -/
def HC (I : Nat → Nat → Int32) (a : Nat) (P : Nat → Nat → Nat) : Prop := a ≤ 16 ∧ I 285 4 = nI a ∧ ∃ top, top < 16 ∧ I 285 3 = nI top ∧ ∀ j, j < a → P j 18 ≤ 8 ∧ P j 16 ≤ 1 ∧ CSt I (288 + 7 * ((top + 16 - a + j) % 16)) (P j)
def KC (I : Nat → Nat → Int32) (K : Nat → Bool) (Q : Nat → Nat → Nat) : Prop := I 285 2 = nI (bs K 2) ∧ ∀ i, i < 2 → K i = true → Q i 18 ≤ 8 ∧ Q i 16 ≤ 1 ∧ CSt I (400 + 7 * i) (Q i)
def psh (a : Nat) (P : Nat → Nat → Nat) (N : Nat → Nat) : Nat → Nat → Nat := fun j => if a < 16 then (if j = a then N else P j) else (if j = 15 then N else P (j + 1))
theorem s285 : (hpS (hk σ I L) 285).1 = 1 := rfl
theorem isSt_h {i : Nat} (h : i < 18) : isSt (288 + 7 * i) := by unfold isSt; omega
theorem ld286 {i : Nat} (h : i < 16) : ldR 5 286 (nI i) (hk σ I L) = some (288 + 7 * i) := by
  rw [ldR_ok (n := 16) rfl h (by omega), hpR_hk, RF_286 σ h]
theorem ld287 {i : Nat} (h : i < 2) : ldR 5 287 (nI i) (hk σ I L) = some (400 + 7 * i) := by
  rw [ldR_ok (n := 2) rfl h (by omega), hpR_hk, RF_287 σ h]
theorem g285 (k : Nat) {ρ : Type} (f : Nat → Option ρ) : (gR 0 k 285 (hk σ I L)).bind f = f (RF σ 285 k) := rfl
theorem len286 : aLen 286 (hk σ I L) = some (nI 16) := rfl
theorem len287 : aLen 287 (hk σ I L) = some (nI 2) := rfl
theorem and15 {a : Nat} : nI a &&& 15 = nI (a % 16) := by
  rw [show (15 : Int32) = nI 15 from rfl, nx_and, show (15 : Nat) = 2 ^ 4 - 1 from rfl, Nat.and_two_pow_sub_one_eq_mod]
theorem back15 {t : Nat} (h : t < 16) : (nI t - 1) &&& 15 = nI ((t + 15) % 16) := by
  have : ∀ t, t < 16 → (nI t - 1) &&& 15 = nI ((t + 15) % 16) := by decide +kernel
  exact this t h
/-- note -/
theorem cnote_ok {a s : Nat} {P : Nat → Nat → Nat} {N : Nat → Nat} (h : HC I a P) (hs : isSt s) (hs2 : s < 282) (hN : CSt I s N) (h18 : N 18 ≤ 8) (h16 : N 16 ≤ 1) :
    ∃ I', mX0_note 285 s (hk σ I L) = some (hk σ I' L) ∧ HC I' (min (a + 1) 16) (psh a P N) ∧ (∀ x, (x < 285 ∨ x = 286 ∨ x = 287 ∨ 400 ≤ x) → I' x = I x) ∧ ∀ k, k ≠ 3 → k ≠ 4 → I' 285 k = I 285 k := by
  obtain ⟨ha, h4, top, ht, h3, hP⟩ := h
  have hst := isSt_h (i := top) (by omega)
  have hne : s ≠ 288 + 7 * top := by omega
  obtain ⟨J, hJ⟩ : ∃ J, J = cpI I s (288 + 7 * top) := ⟨_, rfl⟩
  have ec := copy_st (σ := σ) (L := L) hs hst hne (hN.z01 h16)
  rw [← hJ] at ec
  have jo : ∀ x, x < 288 + 7 * top ∨ 288 + 7 * top + 7 ≤ x → J x = I x := fun x hx => by rw [hJ]; exact cpI_out hx
  have j285 : J 285 = I 285 := jo 285 (by omega)
  refine ⟨rowUp J 285 (updA (updA (I 285) 3 (nI ((top + 1) % 16))) 4 (nI (min (a + 1) 16))), ?_, ⟨by omega, by rw [rowUp_same, updA_same], (top + 1) % 16, by omega, by rw [rowUp_same, updA_ne _ _ (by omega), updA_same], fun j hj => ?_⟩, fun x hx => ?_, fun k k3 k4 => ?_⟩
  · unfold mX0_note mX0_note_b44
    rw [if_pos s285, gI_o 3 (n := 5) rfl, obind, h3, if_neg (nI_pos (by omega)), obind, g285, RF_285_0, len286, obind, c_lt ht (by omega), g285, RF_285_0, obind, ld286 ht, obind, if_neg (by omega), g285, RF_285_0, obind, ld286 ht, obind, ec, obind, gI_o 3 (n := 5) rfl, obind, j285, h3, nI_1, and15, sI_ok s285, obind, setI_hk, hpI_hk', j285, gI_o 4 (n := 5) rfl, obind, rowUp_same, updA_ne _ _ (by omega), h4, nI_1, show (16 : Int32) = nI 16 from rfl, min_d (by omega) (by omega), sI_ok s285, obind, setI_hk, rowUp_two, hpI_hk', rowUp_same]
  · have cs : ∀ (V : Nat → Int32) i N', i < 16 → CSt J (288 + 7 * i) N' → CSt (rowUp J 285 V) (288 + 7 * i) N' := fun V i N' _ hc => hc.eq fun x h1 h2 => by rw [rowUp_ne _ _ (by omega)]
    have new : CSt J (288 + 7 * top) N := by rw [hJ]; exact cpI_st h18 hN
    have old : ∀ i N', i < 16 → i ≠ top → CSt I (288 + 7 * i) N' → CSt J (288 + 7 * i) N' := fun i N' _ hi hc => hc.eq fun x h1 h2 => jo x (by omega)
    unfold psh
    by_cases h6 : a < 16
    · rw [if_pos h6, Nat.min_eq_left (by omega)]
      rw [Nat.min_eq_left (by omega)] at hj
      by_cases e : j = a
      · subst e
        rw [if_pos rfl]
        refine ⟨h18, h16, cs _ _ _ (by omega) ?_⟩
        rw [show ((top + 1) % 16 + 16 - (j + 1) + j) % 16 = top by omega]
        exact new
      · rw [if_neg e]
        obtain ⟨p1, p2, p3⟩ := hP j (by omega)
        refine ⟨p1, p2, cs _ _ _ (by omega) ?_⟩
        rw [show ((top + 1) % 16 + 16 - (a + 1) + j) % 16 = (top + 16 - a + j) % 16 by omega]
        exact old _ _ (by omega) (by omega) p3
    · have a16 : a = 16 := by omega
      subst a16
      rw [if_neg h6, Nat.min_eq_right (by omega)]
      rw [Nat.min_eq_right (by omega)] at hj
      by_cases e : j = 15
      · subst e
        rw [if_pos rfl]
        refine ⟨h18, h16, cs _ _ _ (by omega) ?_⟩
        rw [show ((top + 1) % 16 + 16 - 16 + 15) % 16 = top by omega]
        exact new
      · rw [if_neg e]
        obtain ⟨p1, p2, p3⟩ := hP (j + 1) (by omega)
        refine ⟨p1, p2, cs _ _ _ (by omega) ?_⟩
        rw [show ((top + 1) % 16 + 16 - 16 + j) % 16 = (top + 16 - 16 + (j + 1)) % 16 by omega]
        exact old _ _ (by omega) (by omega) p3
  · by_cases e : x = 285
    · omega
    · rw [rowUp_ne _ _ e]; exact jo x (by omega)
  · rw [rowUp_same, updA_ne _ _ k4, updA_ne _ _ k3]
/-- takeBack -/
theorem ctake_ok {a s : Nat} {P : Nat → Nat → Nat} (h : HC I a P) (hs : isSt s) (hs2 : s < 282) (hpos : 0 < a) :
    ∃ I', mX0_takeBack 285 s (hk σ I L) = some (1, hk σ I' L) ∧ HC I' (a - 1) P ∧ CSt I' s (P (a - 1)) ∧ (∀ x, x ≠ 285 → (x < s ∨ s + 7 ≤ x) → I' x = I x) ∧ ∀ k, k ≠ 3 → k ≠ 4 → I' 285 k = I 285 k := by
  obtain ⟨ha, h4, top, ht, h3, hP⟩ := h
  obtain ⟨tp, htp⟩ : ∃ tp, tp = (top + 15) % 16 := ⟨_, rfl⟩
  have tl : tp < 16 := by omega
  have hst := isSt_h (i := tp) (by omega)
  obtain ⟨J, hJ⟩ : ∃ J, J = rowUp I 285 (updA (updA (I 285) 3 (nI tp)) 4 (nI (a - 1))) := ⟨_, rfl⟩
  obtain ⟨p1, p2, p3⟩ := hP (a - 1) (by omega)
  rw [show (top + 16 - a + (a - 1)) % 16 = tp by omega] at p3
  have jo : ∀ x, x ≠ 285 → J x = I x := fun x hx => by rw [hJ, rowUp_ne _ _ hx]
  have pj : CSt J (288 + 7 * tp) (P (a - 1)) := p3.eq fun x h1 h2 => jo x (by omega)
  have ec := copy_st (σ := σ) (L := L) (s := 288 + 7 * tp) (s' := s) hst hs (by omega) (pj.z01 p2)
  refine ⟨cpI J (288 + 7 * tp) s, ?_, ⟨by omega, ?_, tp, tl, ?_, fun j hj => ?_⟩, cpI_st p1 pj, fun x h1 h2 => ?_, fun k k3 k4 => ?_⟩
  · unfold mX0_takeBack
    rw [if_pos s285, gI_o 4 (n := 5) rfl, obind, h4, c_0 (by omega), if_neg (by omega), gI_o 3 (n := 5) rfl, obind, h3, back15 ht, ← htp, sI_ok s285, obind, setI_hk, hpI_hk', gI_o 4 (n := 5) rfl, obind, rowUp_same, updA_ne _ _ (by omega), h4, nI_s1 hpos, sI_ok s285, obind, setI_hk, rowUp_two, hpI_hk', rowUp_same, ← hJ]
    have j3 : J 285 3 = nI tp := by rw [hJ, rowUp_same, updA_ne _ _ (by omega), updA_same]
    rw [gI_o 3 (n := 5) rfl, obind, j3, if_neg (nI_pos (by omega)), obind, g285, RF_285_0, len286, obind, c_lt tl (by omega), g285, RF_285_0, obind, ld286 tl, obind, if_neg (by omega), g285, RF_285_0, obind, ld286 tl, obind, ec, obind]
  · rw [cpI_out (by omega), hJ, rowUp_same, updA_same]
  · rw [cpI_out (by omega), hJ, rowUp_same, updA_ne _ _ (by omega), updA_same]
  · obtain ⟨q1, q2, q3⟩ := hP j (by omega)
    refine ⟨q1, q2, ?_⟩
    rw [show (tp + 16 - (a - 1) + j) % 16 = (top + 16 - a + j) % 16 by omega]
    exact q3.eq fun x h1 h2 => by rw [cpI_out (by omega), jo x (by omega)]
  · rw [cpI_out h2, jo x h1]
  · rw [cpI_out (by omega), hJ, rowUp_same, updA_ne _ _ k4, updA_ne _ _ k3]
/-- store -/
theorem bs_upd (K : Nat → Bool) {i : Nat} (hi : i < 2) : bs K 2 ||| 2 ^ i = bs (updA K i true) 2 := by
  apply Nat.eq_of_testBit_eq; intro j
  rw [tb_or1, bs_bit, bs_bit, updA_at]
  by_cases e : j = i
  · subst e; rw [decide_eq_true rfl, if_pos rfl, decide_eq_true hi, Bool.or_true]; rfl
  · rw [decide_eq_false e, if_neg e, Bool.or_false]
theorem cstore_ok {i s : Nat} {K : Nat → Bool} {Q : Nat → Nat → Nat} {N : Nat → Nat} (h : KC I K Q) (hi : i < 2) (hs : isSt s) (hs2 : s < 282) (hN : CSt I s N) (h18 : N 18 ≤ 8) (h16 : N 16 ≤ 1) :
    ∃ I', mX0_store 285 (nI i) s (hk σ I L) = some (1, hk σ I' L) ∧ KC I' (updA K i true) (updA Q i N) ∧ (∀ x, x ≠ 285 → (x < 400 ∨ 414 ≤ x) → I' x = I x) ∧ ∀ k, k ≠ 2 → I' 285 k = I 285 k := by
  obtain ⟨h2, hQ⟩ := h
  have hst : isSt (400 + 7 * i) := by unfold isSt; omega
  have hne : s ≠ 400 + 7 * i := by omega
  have ec := copy_st (σ := σ) (L := L) hs hst hne (hN.z01 h16)
  obtain ⟨J, hJ⟩ : ∃ J, J = cpI I s (400 + 7 * i) := ⟨_, rfl⟩
  rw [← hJ] at ec
  have jo : ∀ x, x < 400 + 7 * i ∨ 400 + 7 * i + 7 ≤ x → J x = I x := fun x hx => by rw [hJ]; exact cpI_out hx
  have j285 : J 285 = I 285 := jo 285 (by omega)
  refine ⟨rowUp J 285 (updA (I 285) 2 (nI (bs (updA K i true) 2))), ?_, ⟨by rw [rowUp_same, updA_same], fun j hj hk' => ?_⟩, fun x h1 h2 => ?_, fun k hk' => ?_⟩
  · unfold mX0_store
    rw [if_pos s285, if_neg (nI_pos (by omega)), g285, RF_285_1, len287, obind, c_lt hi (by omega), g285, RF_285_1, ld287 hi, obind, if_pos (by omega), g285, RF_285_1, ld287 hi, obind, ec, obind, gI_o 2 (n := 5) rfl, obind, j285, h2, shl1 (by omega), nx_or, bs_upd K hi, sI_ok s285, obind, setI_hk, hpI_hk', j285]
  · have cs : ∀ N', CSt J (400 + 7 * j) N' → CSt (rowUp J 285 (updA (I 285) 2 (nI (bs (updA K i true) 2)))) (400 + 7 * j) N' := fun N' hc => hc.eq fun x h1 h2 => by rw [rowUp_ne _ _ (by omega)]
    by_cases e : j = i
    · subst e
      rw [updA_same]
      exact ⟨h18, h16, cs _ (by rw [hJ]; exact cpI_st h18 hN)⟩
    · rw [updA_ne _ _ e] at hk' ⊢
      obtain ⟨q1, q2, q3⟩ := hQ j hj hk'
      exact ⟨q1, q2, cs _ (q3.eq fun x h1 h2 => jo x (by omega))⟩
  · rw [rowUp_ne _ _ h1]; exact jo x (by omega)
  · rw [rowUp_same, updA_ne _ _ hk']
theorem HC.fr {a : Nat} {P : Nat → Nat → Nat} (h : HC I a P) (h1 : I' 285 3 = I 285 3) (h2 : I' 285 4 = I 285 4) (he : ∀ x, 288 ≤ x → x < 400 → I' x = I x) : HC I' a P := by
  obtain ⟨ha, h4, top, ht, h3, hP⟩ := h
  refine ⟨ha, by rw [h2, h4], top, ht, by rw [h1, h3], fun j hj => ?_⟩
  obtain ⟨q1, q2, q3⟩ := hP j hj
  exact ⟨q1, q2, q3.eq fun x a1 a2 => he x (by omega) (by omega)⟩
theorem KC.fr {K : Nat → Bool} {Q : Nat → Nat → Nat} (h : KC I K Q) (h1 : I' 285 2 = I 285 2) (he : ∀ x, 400 ≤ x → x < 414 → I' x = I x) : KC I' K Q := by
  refine ⟨by rw [h1, h.1], fun i hi hk' => ?_⟩
  obtain ⟨q1, q2, q3⟩ := h.2 i hi hk'
  exact ⟨q1, q2, q3.eq fun x a1 a2 => he x (by omega) (by omega)⟩
/-- restore -/
theorem crestore_ok {a i s : Nat} {P : Nat → Nat → Nat} {K : Nat → Bool} {Q : Nat → Nat → Nat} {N : Nat → Nat} (hh : HC I a P) (h : KC I K Q) (hi : i < 2) (hk' : K i = true) (hs : isSt s) (hs2 : s < 282) (hN : CSt I s N) (h18 : N 18 ≤ 8) (h16 : N 16 ≤ 1) :
    ∃ I', mX0_restore 285 (nI i) s (hk σ I L) = some (1, hk σ I' L) ∧ HC I' (min (a + 1) 16) (psh a P N) ∧ CSt I' s (Q i) ∧ (∀ x, (x < 285 ∨ x = 286 ∨ x = 287 ∨ 400 ≤ x) → (x < s ∨ s + 7 ≤ x) → I' x = I x) ∧ ∀ k, k ≠ 3 → k ≠ 4 → I' 285 k = I 285 k := by
  obtain ⟨J, ej, hj, jf, j5⟩ := cnote_ok (σ := σ) (L := L) hh hs hs2 hN h18 h16
  obtain ⟨q1, q2, q3⟩ := h.2 i hi hk'
  have hst : isSt (400 + 7 * i) := by unfold isSt; omega
  have cj : CSt J (400 + 7 * i) (Q i) := q3.eq fun x a1 a2 => jf x (by omega)
  have ec := copy_st (σ := σ) (L := L) (s := 400 + 7 * i) (s' := s) hst hs (by omega) (cj.z01 q2)
  refine ⟨cpI J (400 + 7 * i) s, ?_, hj.fr (by rw [cpI_out (by omega)]) (by rw [cpI_out (by omega)]) (fun x a1 a2 => cpI_out (by omega)), cpI_st q1 cj, fun x a1 a2 => by rw [cpI_out a2, jf x a1], fun k k3 k4 => by rw [cpI_out (by omega), j5 k k3 k4]⟩
  have hb : bs K 2 < 2 ^ 2 := bs_lt K 2
  unfold mX0_restore
  rw [if_pos s285, if_neg (nI_pos (by omega)), g285, RF_285_1, len287, obind, c_lt hi (by omega), g285, RF_285_1, ld287 hi, obind, if_neg (by omega), gI_o 2 (n := 5) rfl, obind, h.1, has_nI (by omega) (by omega), obind, bI_if0, bs_bit, hk', decide_eq_true hi, Bool.and_self, if_neg nTF, ej, obind, g285, RF_285_1, ld287 hi, obind, ec, obind]
theorem crestore_no {i s : Nat} {K : Nat → Bool} {Q : Nat → Nat → Nat} (h : KC I K Q) (hi : i < 2) (hk' : K i = false) : mX0_restore 285 (nI i) s (hk σ I L) = some (0, hk σ I L) := by
  have hb : bs K 2 < 2 ^ 2 := bs_lt K 2
  unfold mX0_restore
  rw [if_pos s285, if_neg (nI_pos (by omega)), g285, RF_285_1, len287, obind, c_lt hi (by omega), g285, RF_285_1, ld287 hi, obind, if_neg (by omega), gI_o 2 (n := 5) rfl, obind, h.1, has_nI (by omega) (by omega), obind, bI_if0, bs_bit, hk', decide_eq_true hi, Bool.and_false, if_pos rfl]
end Past
