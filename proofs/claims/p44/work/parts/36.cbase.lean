/-! THE CLASS: what its law and its state hold -/
def wt (T : Nat → Nat) (w : Nat) : Nat → Nat
  | 0 => 1
  | f + 1 => wt T w f * (if w.testBit f = true then T (8 + f) else 10 - T (8 + f))
/-- which told COUNTS are the same, through others -/
def smB (T : Nat → Nat) (a b : Nat) : Bool := decide (a < T 2) && decide (b < T 2) && ((T (61 + a)).testBit b || (T (61 + b)).testBit a)
def fst0 (T : Nat → Nat) (k : Nat) : Nat := fz (smB T) k
def CLw (I : Nat → Nat → Int32) (L : Nat → Nat → Int64) (la : Nat) (T : Nat → Nat) : Prop :=
  (I la 0 = nI (T 0) ∧ I la 1 = nI (T 1) ∧ I la 2 = nI (T 2) ∧ I la 4 = nI (T 4) ∧ I la 5 = nI (T 5) ∧ I la 13 = nI (T 7)) ∧
  (∀ f, f < T 1 → I (la + 1) f = nI (T (8 + f))) ∧
  (∀ k, k < T 2 → I (la + 3) k = nI (T (26 + k)) ∧ I (la + 6) k = nI (fst0 T k) ∧ Rw (L (la + 17 + 2 * (26 + k))) (won T k) ∧
    ∀ i, i < T (26 + k) → I (la + 8) (4 * k + i) = nI (T (84 + T (31 + 4 * k + i))) ∧ I (la + 9) (4 * k + i) = nI (T (117 + T (31 + 4 * k + i))) ∧ Rw (L (la + 17 + 2 * (4 * k + i))) (ev T (T (31 + 4 * k + i)))) ∧
  (∀ p, p < T 4 → I (la + 4) p = nI (T (66 + p)) ∧ I (la + 8) (20 + p) = nI (T (84 + T (72 + p))) ∧ I (la + 9) (20 + p) = nI (T (117 + T (72 + p))) ∧ Rw (L (la + 17 + 2 * (20 + p))) (ev T (T (72 + p)))) ∧
  (∀ i, i < T 7 → I (la + 7) i = nI (cc (cT T i))) ∧ (∀ w, w < 256 → I (la + 10) w = nI (wt T w (T 1))) ∧ Rw (L (la + 12)) (poss T)
def CSt (I : Nat → Nat → Int32) (s : Nat) (N : Nat → Nat) : Prop :=
  (I s 0 = nI (N 17) ∧ I s 1 = nI (N 16) ∧ I s 2 = nI (N 18) ∧ I s 3 = nI (bs (fun k => decide (it N k 6 = 1)) (N 18)) ∧ I s 4 = nI (bs (fun f => decide (N f = 1)) 8) ∧ I s 5 = nI (bs (fun f => decide (N f = 2)) 8) ∧ I s 6 = nI (bs (fun f => decide (N f = 3)) 8) ∧ I s 7 = nI (bs (fun f => decide (N f = 4)) 8) ∧ I s 8 = nI (knS N)) ∧
  (∀ k, k < N 18 → I (s + 1) k = nI (it N k 0) ∧ I (s + 2) k = nI (it N k 2) ∧ I (s + 3) k = nI (it N k 3) ∧ I (s + 4) k = nI (it N k 1) ∧ I (s + 5) k = nI (it N k 4) ∧ I (s + 6) k = nI (it N k 5))
def CR (σ : Sg) (I : Nat → Nat → Int32) (L : Nat → Nat → Int64) (T N : Nat → Nat) : Prop :=
  (isLa (gla σ) ∧ isSt (gsa σ) ∧ SOk L) ∧ WT T ∧ WN T N ∧ CLw I L (gla σ) T ∧ CSt I (gsa σ) N
theorem knS_sub (N : Nat → Nat) : knS N &&& knF N = knS N := by
  apply Nat.eq_of_testBit_eq; intro i
  unfold knS knF
  rw [Nat.testBit_and, bs_bit, bs_bit]
  cases decide (i < 8) <;> cases kn N i <;> simp
section CB
variable {σ : Sg} {I : Nat → Nat → Int32} {L : Nat → Nat → Int64}
theorem CR.upI {T N : Nat → Nat} (h : CR σ I L T N) {a : Nat} {r : Nat → Int32} (ha : a < 112 ∨ 414 ≤ a ∨ (282 ≤ a ∧ a < 288)) : CR σ (rowUp I a r) L T N := by
  obtain ⟨⟨h1, h2, h3⟩, h4, h5, h6, h7⟩ := h
  have hn : ∀ j, j < 78 → rowUp I a r (gla σ + j) = I (gla σ + j) := fun j hj => by rw [rowUp_at, if_neg (by omega)]
  have hs : ∀ j, j < 7 → rowUp I a r (gsa σ + j) = I (gsa σ + j) := fun j hj => by rw [rowUp_at, if_neg (by omega)]
  refine ⟨⟨h1, h2, h3⟩, h4, h5, ?_, ?_⟩
  · unfold CLw at h6 ⊢
    have := hn 0 (by omega)
    rw [Nat.add_zero] at this
    rw [this, hn 1 (by omega), hn 3 (by omega), hn 4 (by omega), hn 6 (by omega), hn 7 (by omega), hn 8 (by omega), hn 9 (by omega), hn 10 (by omega)]
    exact h6
  · unfold CSt at h7 ⊢
    have := hs 0 (by omega)
    rw [Nat.add_zero] at this
    rw [this, hs 1 (by omega), hs 2 (by omega), hs 3 (by omega), hs 4 (by omega), hs 5 (by omega), hs 6 (by omega)]
    exact h7
theorem CR.upL {T N : Nat → Nat} (h : CR σ I L T N) {a : Nat} {r : Nat → Int64} (ha : (a < 112 ∨ 414 ≤ a ∨ (282 ≤ a ∧ a < 288)) ∧ a ≠ 2) : CR σ I (rowUp L a r) T N := by
  obtain ⟨⟨h1, h2, h3⟩, h4, h5, h6, h7⟩ := h
  refine ⟨⟨h1, h2, fun f hf => by rw [rowUp_at, if_neg (fun e => ha.2 e.symm)]; exact h3 f hf⟩, h4, h5, ?_, h7⟩
  obtain ⟨b1, b2, b3, b4, b5, b6, b7⟩ := h6
  refine ⟨b1, b2, fun k hk' => ?_, fun p hp => ?_, b5, b6, ?_⟩
  · obtain ⟨c1, c2, c3, c4⟩ := b3 k hk'
    have w2 := h4.1.2.2.1
    refine ⟨c1, c2, by rw [rowUp_at, if_neg (by omega)]; exact c3, fun i hi => ?_⟩
    have b26 := (h4.2.2.1 k hk').2.2.1
    obtain ⟨d1, d2, d3⟩ := c4 i hi
    exact ⟨d1, d2, by rw [rowUp_at, if_neg (by omega)]; exact d3⟩
  · obtain ⟨c1, c2, c3, c4⟩ := b4 p hp
    have w4 := h4.1.2.2.2.2.1
    exact ⟨c1, c2, c3, by rw [rowUp_at, if_neg (by omega)]; exact c4⟩
  · rw [rowUp_at, if_neg (by omega)]; exact b7
theorem hpL_hk'' (a : Nat) : hpL (hk σ I L) a = L a := rfl
theorem s100 : (hpS (hk σ I L) 100).1 = 12 := rfl
theorem gLa {ρ : Type} (f : Nat → Option ρ) : (gR 11 3 100 (hk σ I L)).bind f = f (gla σ) := rfl
theorem gSa {ρ : Type} (f : Nat → Option ρ) : (gR 11 5 100 (hk σ I L)).bind f = f (gsa σ) := rfl
theorem gLeft {ρ : Type} (f : Nat → Option ρ) : (gR 11 9 100 (hk σ I L)).bind f = f 414 := rfl
theorem gAll {ρ : Type} (f : Nat → Option ρ) : (gR 11 10 100 (hk σ I L)).bind f = f 416 := rfl
theorem gSpr {ρ : Type} (f : Nat → Option ρ) : (gR 11 11 100 (hk σ I L)).bind f = f 418 := rfl
theorem gTree {ρ : Type} (f : Nat → Option ρ) : (gR 11 12 100 (hk σ I L)).bind f = f 420 := rfl
theorem gPick {ρ : Type} (f : Nat → Option ρ) : (gR 11 13 100 (hk σ I L)).bind f = f 425 := rfl
theorem gTal {ρ : Type} (f : Nat → Option ρ) : (gR 11 14 100 (hk σ I L)).bind f = f 426 := rfl
theorem gBks {ρ : Type} (f : Nat → Option ρ) : (gR 11 15 100 (hk σ I L)).bind f = f 432 := rfl
theorem wLeft : isW (hk σ I L) 414 415 := ⟨rfl, rfl, rfl⟩
theorem wAll : isW (hk σ I L) 416 417 := ⟨rfl, rfl, rfl⟩
theorem wSpr : isW (hk σ I L) 418 419 := ⟨rfl, rfl, rfl⟩
theorem wPos {la : Nat} (h : isLa la) : isW (hk σ I L) (la + 11) (la + 12) := isW_hk (by rw [SH_la11 h]) (RF_la11 σ h) (SH_la12 h)
theorem wTab {la i : Nat} (h : isLa la) (hi : i < 31) : isW (hk σ I L) (la + 16 + 2 * i) (la + 17 + 2 * i) := isW_hk (by rw [SH_laT h hi]) (RF_laP σ h hi) (SH_laP h hi)
/-- an int of an object -/
theorem gI_o {c n : Nat} (k : Nat) {a : Nat} (hs : SH (gN σ) a = (c + 1, n)) : gI c k a (hk σ I L) = some (I a k) := by
  unfold gI; rw [hpS_hk, hs, if_pos rfl]; rfl
theorem gR_o {c n : Nat} (k : Nat) {a : Nat} (hs : SH (gN σ) a = (c + 1, n)) : gR c k a (hk σ I L) = some (RF σ a k) := by
  unfold gR; rw [hpS_hk, hs, if_pos rfl]; rfl
theorem gI_la {la : Nat} (h : isLa la) (k : Nat) : gI 1 k la (hk σ I L) = some (I la k) := gI_o k (SH_la0 h)
theorem gI_st {s : Nat} (h : isSt s) (k : Nat) : gI 5 k s (hk σ I L) = some (I s k) := gI_o k (SH_st0 h)
theorem gR_la {la : Nat} (h : isLa la) (k : Nat) : gR 1 k la (hk σ I L) = some (RF σ la k) := gR_o k (SH_la0 h)
theorem gR_st {s : Nat} (h : isSt s) (k : Nat) : gR 5 k s (hk σ I L) = some (RF σ s k) := gR_o k (SH_st0 h)
/-- an entry of a row that is there -/
theorem at_r {a n i : Nat} (hs : SH (gN σ) a = (50, n)) (hi : i < n) (hn : n < 2147483648) : mX11_at a (nI i) (hk σ I L) = some (I a i) := by
  have hs' : hpS (hk σ I L) a = (50, n) := hs
  rw [at_nI hs' hn (by omega), if_pos hi]; rfl
theorem table_ok {la i : Nat} (h : isLa la) (hi : i < 31) : mX1_table la (nI i) (hk σ I L) = some (la + 16 + 2 * i) := by
  unfold mX1_table
  have h13 : hpS (hk σ I L) (la + 13) = (70, 31) := SH_la13 (n := gN σ) h
  have l2 : ldR 10 (la + 13) (nI i) (hk σ I L) = some (la + 16 + 2 * i) := by
    rw [ldR_ok (c := 10) (n := 31) h13 hi (by omega), hpR_hk, RF_laT σ h hi]
  have h0 : (hpS (hk σ I L) la).1 = 2 := by rw [hpS_hk, SH_la0 h]
  rw [if_pos h0, if_neg (nI_pos (by omega)), gR_la h, obind, RF_la_18 σ h, aLen_ok h13 rfl, obind, c_lt hi (by omega), obind, l2, obind, if_pos (by omega), obind, l2, obind]
theorem wonBy_ok {la k : Nat} (h : isLa la) (hk' : k < 5) : mX1_wonBy la (nI k) (hk σ I L) = some (la + 16 + 2 * (26 + k)) := by
  unfold mX1_wonBy
  have h0 : (hpS (hk σ I L) la).1 = 2 := by rw [hpS_hk, SH_la0 h]
  rw [if_pos h0, L26, nI_add, table_ok h (by omega), obind]
theorem known_ok {N : Nat → Nat} {s : Nat} (hs : isSt s) (h : CSt I s N) : mX5_known s (hk σ I L) = some (nI (knF N)) := by
  unfold mX5_known
  have h0 : (hpS (hk σ I L) s).1 = 6 := by rw [hpS_hk, SH_st0 hs]
  obtain ⟨⟨_, _, _, _, a4, _, _, a7, _⟩, _⟩ := h
  rw [if_pos h0, gI_st hs, obind, gI_st hs, obind, a4, a7, nx_or]
  congr 2
  apply Nat.eq_of_testBit_eq; intro i
  unfold knF kn
  rw [Nat.testBit_or, bs_bit, bs_bit, bs_bit]
  cases decide (i < 8) <;> simp
theorem ckind_ok {T N : Nat → Nat} (h : CR σ I L T N) {k : Nat} (hk' : k < N 18) : mX11_kind 100 (nI k) (hk σ I L) = some (nI (it N k 0)) := by
  have hs := h.1.2.1
  have h18 := h.2.2.1.2.2.2.1.2
  have e := (h.2.2.2.2.2 k hk').1
  unfold mX11_kind
  rw [if_pos s100, gSa, gR_st hs, obind, RF_st_9 σ hs, at_r (SH_st1 hs) (by omega) (by omega), e]; rfl
theorem remember_ok {T N : Nat → Nat} (h : CR σ I L T N) : ∃ r, mX11_remember 100 (hk σ I L) = some (hk σ I (rowUp L 415 r)) ∧ Rw r (lft T N) := by
  obtain ⟨⟨hla, hsa, hS⟩, hW, hN, hL, hSt⟩ := id h
  obtain ⟨r, e, hr⟩ := copy_ok (wLeft (σ := σ) (I := I) (L := L)) (wPos hla) (by omega) hL.2.2.2.2.2.2
  rw [setL_hk] at e
  have h2 : CR σ I (rowUp L 415 r) T N := h.upL (by omega)
  obtain ⟨r', e2, hr'⟩ := agree_ok (σ := σ) (I := I) (L := rowUp L 415 r) h2.1.2.2 (a := 414) (p := 415) wLeft (by decide) (by rw [rowUp_same]; exact hr) (nI (knF N)) (nI (knS N))
  rw [rowUp_two] at e2
  refine ⟨r', ?_, fun w hw => ?_⟩
  · unfold mX11_remember
    rw [if_pos s100, gLeft, gLa, gR_la hla, obind, RF_la_17 σ hla, e, obind, gLeft, gSa, known_ok hsa h2.2.2.2.2, obind, gSa, gI_st hsa, obind, hSt.1.2.2.2.2.2.2.2.2, e2, obind]
  · rw [hr' w hw]
    show (poss T w && agN _ _ w 8) = _
    rw [agN_n (knF_lt N) (knS_lt N), knS_sub]; rfl
theorem allege_ok {T N : Nat → Nat} (h : CR σ I L T N) {k : Nat} (hk' : k < N 18) : ∃ r, mX11_allege 100 (nI k) (hk σ I L) = some (hk σ I (rowUp L 417 r)) ∧ Rw r (agr T (it N k 4) (it N k 5)) := by
  obtain ⟨⟨hla, hsa, hS⟩, hW, hN, hL, hSt⟩ := id h
  have h18 := hN.2.2.2.1.2
  have h256 := ev_lt hW.1.2.1
  obtain ⟨n0, n1, n2, n3, n4, n5, _⟩ := hN.2.2.2.2.1 k hk'
  have n55 : it N k 5 ≤ it N k 4 := by rw [← n5]; exact Nat.and_le_right
  obtain ⟨r, e, hr⟩ := copy_ok (wAll (σ := σ) (I := I) (L := L)) (wPos hla) (by omega) hL.2.2.2.2.2.2
  rw [setL_hk] at e
  have h2 : CR σ I (rowUp L 417 r) T N := h.upL (by omega)
  obtain ⟨r', e2, hr'⟩ := agree_ok (σ := σ) (I := I) (L := rowUp L 417 r) h2.1.2.2 (a := 416) (p := 417) wAll (by decide) (by rw [rowUp_same]; exact hr) (nI (it N k 4)) (nI (it N k 5))
  rw [rowUp_two] at e2
  obtain ⟨_, _, _, _, s5, s6⟩ := hSt.2 k hk'
  refine ⟨r', ?_, fun w hw => ?_⟩
  · unfold mX11_allege
    rw [if_pos s100, gAll, gLa, gR_la hla, obind, RF_la_17 σ hla, e, obind, gAll, gSa, gR_st hsa, obind, RF_st_13 σ hsa, at_r (SH_st5 hsa) (by omega) (by omega), obind, gSa, gR_st hsa, obind, RF_st_14 σ hsa, at_r (SH_st6 hsa) (by omega) (by omega), obind, s5, s6, e2, obind]
  · rw [hr' w hw]
    show (poss T w && agN _ _ w 8) = _
    rw [agN_n (by omega) (by omega), n5]; rfl
end CB
