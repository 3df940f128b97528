theorem nl_c : ∀ c, c < 256 → (nI c).toInt64 = lN c := by decide +kernel
def mtk (X : Nat → Nat) (n b : Nat) : Nat := if n ≤ b then 0 else if bet X 97 122 b = true then (if 6 < we X n b - b then 1 else 2) else if bet X 48 57 b = true then (if 3 < de X n b - b then 1 else 3) else if mrk (X b) = true then 4 else 1
def mvl (X : Nat → Nat) (n b : Nat) : Nat := if n ≤ b then 0 else if bet X 97 122 b = true then 0 else if bet X 48 57 b = true then dgs X b (min 3 (de X n b - b)) else X b
def mwd (X : Nat → Nat) (n b : Nat) : Nat := if n ≤ b then 0 else if bet X 97 122 b = true then pk27 (lts X b (min 6 (we X n b - b))) else 0
/-- the tape, as the model reads it -/
def TM (I : Nat → Nat → Int32) (X : Nat → Nat) (n : Nat) : Prop := n ≤ 480 ∧ I 433 11 = nI n ∧ ∀ i, i < n → X i < 256 ∧ I 442 i = nI (X i)
/-- the model's token that begins here -/
def MT (I : Nat → Nat → Int32) (L : Nat → Nat → Int64) (X : Nat → Nat) (n b : Nat) : Prop := I 433 12 = nI (te X n b) ∧ I 433 13 = nI b ∧ I 433 14 = nI (mtk X n b) ∧ I 433 15 = nI (mvl X n b) ∧ L 433 21 = lN (mwd X n b)
section Next
variable {σ : Sg} {I I' J I1 I2 I3 Ja : Nat → Nat → Int32} {L L' L1 L2 : Nat → Nat → Int64}
def sv (X : Nat → Nat) (n p : Nat) : Int32 := if p < n then nI (X p) else -1
theorem see_ok {X : Nat → Nat} {n p : Nat} (h : TM I X n) (hp : p < 2147483648) : mX12_see 433 (nI p) (hk σ I L) = some (sv X n p) := by
  unfold mX12_see sv
  have h1 := h.1
  rw [if_pos s433, gI_ok s433, obind, hpI_hk, h.2.1, c_ltd hp (by omega)]
  by_cases e : p < n
  · rw [if_pos e, if_pos e, gM 9, RF_433_9, ldI_ok (n := 480) rfl (by omega) (by omega), obind, hpI_hk, (h.2.2 p e).2]
  · rw [if_neg e, if_neg e]
theorem in_see {X : Nat → Nat} {n p lo hi : Nat} (h : TM I X n) (hl : lo < 256) (hh : hi < 256) : mX12_in (sv X n p) (nI lo) (nI hi) = some (bI (decide (p < n) && bet X lo hi p)) := by
  unfold sv
  by_cases e : p < n
  · have := (h.2.2 p e).1
    rw [if_pos e, in_ok (by omega) (by omega) (by omega), decide_eq_true e, Bool.true_and]
    congr 2
    unfold bet
    by_cases a : lo ≤ X p
    · by_cases b : X p ≤ hi
      · rw [decide_eq_true (show lo ≤ X p ∧ X p ≤ hi from ⟨a, b⟩), decide_eq_true a, decide_eq_true b]; rfl
      · rw [decide_eq_false (show ¬ (lo ≤ X p ∧ X p ≤ hi) from fun q => b q.2), decide_eq_true a, decide_eq_false b]; rfl
    · rw [decide_eq_false (show ¬ (lo ≤ X p ∧ X p ≤ hi) from fun q => a q.1), decide_eq_false a]; rfl
  · rw [if_neg e, decide_eq_false e, Bool.false_and]
    have : (-1 : Int32) < nI lo := nI_gm1 (by omega)
    unfold mX12_in
    rw [if_pos this]
    rfl
theorem in_l {X : Nat → Nat} {n p : Nat} (h : TM I X n) : mX12_in (sv X n p) (97 : Int32) (122 : Int32) = some (bI (decide (p < n) && bet X 97 122 p)) := in_see (lo := 97) (hi := 122) h (by omega) (by omega)
theorem in_d {X : Nat → Nat} {n p : Nat} (h : TM I X n) : mX12_in (sv X n p) (48 : Int32) (57 : Int32) = some (bI (decide (p < n) && bet X 48 57 p)) := in_see (lo := 48) (hi := 57) h (by omega) (by omega)
theorem TM.up {X : Nat → Nat} {n : Nat} (h : TM I X n) {k : Nat} (v : Int32) (hk' : k ≠ 11) : TM (rowUp I 433 (updA (I 433) k v)) X n := ⟨h.1, by rw [rowUp_same, updA_ne _ _ (by omega)]; exact h.2.1, fun i hi => by rw [rowUp_ne _ _ (by omega)]; exact h.2.2 i hi⟩
theorem upL_id (a k : Nat) (v : Int64) (h : L a k = v) : rowUp L a (updA (L a) k v) = L := by
  funext x
  rw [rowUp_at]
  by_cases e : x = a
  · subst e
    rw [if_pos rfl]
    funext j
    rw [updA_at]
    by_cases q : j = k
    · subst q; rw [if_pos rfl, h]
    · rw [if_neg q]
  · rw [if_neg e]
theorem upI_id (a k : Nat) (v : Int32) (h : I a k = v) : rowUp I a (updA (I a) k v) = I := by
  funext x
  rw [rowUp_at]
  by_cases e : x = a
  · subst e
    rw [if_pos rfl]
    funext j
    rw [updA_at]
    by_cases q : j = k
    · subst q; rw [if_pos rfl, h]
    · rw [if_neg q]
  · rw [if_neg e]
/-- a word -/
theorem l90_ok {X : Nat → Nat} {n b : Nat} (h : TM I X n) (h12 : I 433 12 = nI b) (h13 : I 433 13 = nI b) (h21 : L 433 21 = lN 0) (hb : b < n) :
    mX12_next_l90 433 (hk σ I L) = some (hk σ (rowUp I 433 (updA (updA (I 433) 12 (nI (we X n b))) 14 (if 6 < we X n b - b then 1 else 2))) (rowUp L 433 (updA (L 433) 21 (lN (pk27 (lts X b (min 6 (we X n b - b)))))))) := by
  have h480 := h.1
  have hge : b ≤ we X n b := rn_ge _ n b
  have hle : we X n b ≤ n := rn_le (by omega)
  unfold mX12_next_l90
  obtain ⟨o, e, rfl⟩ := lp_inv (f := fun s : Hp => mX12_next_l90f 433 s) (we X n b - b) (fun j st => st = hk σ (rowUp I 433 (updA (I 433) 12 (nI (b + j)))) (rowUp L 433 (updA (L 433) 21 (lN (pk27 (lts X b (min 6 j)))))))
    (fun o => o = hk σ (rowUp I 433 (updA (updA (I 433) 12 (nI (we X n b))) 14 (if 6 < we X n b - b then 1 else 2))) (rowUp L 433 (updA (L 433) 21 (lN (pk27 (lts X b (min 6 (we X n b - b))))))))
    (fun j st hj hQ => by
      subst hQ
      refine ⟨_, ?_, rfl⟩
      have hbe : bet X 97 122 (b + j) = true := rn_in (ok := bet X 97 122) (n := n) (p := b) (by omega) (show b + j < we X n b by omega)
      have hbb := bet_on hbe
      have hT := h.up (nI (b + j)) (k := 12) (by omega)
      have hX := (h.2.2 (b + j) (by omega)).1
      show mX12_next_l90f 433 (hk σ (rowUp I 433 (updA (I 433) 12 (nI (b + j)))) (rowUp L 433 (updA (L 433) 21 (lN (pk27 (lts X b (min 6 j))))))) = _
      unfold mX12_next_l90f mX12_next_b152
      rw [gI_ok s433, obind, hpI_hk', rowUp_same, updA_same, see_ok hT (by omega), obind, in_l hT, obind, decide_eq_true (show b + j < n by omega), hbe, if_neg (by decide), obind, gI_ok s433, obind, hpI_hk', rowUp_same, updA_ne _ _ (by omega), h13, nI_sub (by omega), Nat.add_sub_cancel_left]
      by_cases q : j < 6
      · rw [if_pos (show nI j < (6 : Int32) from nI_lt (b := 6) q (by omega)), gL_ok s433, obind, hpL_hk'', rowUp_same, updA_same, obind, see_ok hT (by omega), obind]
        unfold sv
        rw [if_pos (show b + j < n by omega), nl_c _ hX, show (27 : Int64) = lN 27 from rfl, show (96 : Int64) = lN 96 from rfl, lN_mul, lN_add, lN_sub (by omega), sL_ok s433, obind, setL_hk, hpL_hk'', rowUp_same, rowUp_two, updA_two, gI_ok s433, obind, hpI_hk', rowUp_same, updA_same, sI_ok s433, obind, setI_hk, hpI_hk', rowUp_same, rowUp_two, updA_two, nI_1, Nat.min_eq_right (by omega), Nat.min_eq_right (by omega)]
        show some (Sum.inl (hk σ (rowUp I 433 (updA (I 433) 12 (nI (b + j + 1)))) (rowUp L 433 (updA (L 433) 21 (lN (27 * pk27 (lts X b j) + X (b + j) - 96)))))) = some (Sum.inl (hk σ (rowUp I 433 (updA (I 433) 12 (nI (b + (j + 1))))) (rowUp L 433 (updA (L 433) 21 (lN (27 * pk27 (lts X b j) + (X (b + j) - 96)))))))
        rw [show 27 * pk27 (lts X b j) + X (b + j) - 96 = 27 * pk27 (lts X b j) + (X (b + j) - 96) by omega, Nat.add_assoc]
      · rw [if_neg (show ¬ nI j < (6 : Int32) from nI_nlt (b := 6) (by omega) (by omega)), gL_ok s433, obind, hpL_hk'', rowUp_same, updA_same, sL_ok s433, obind, setL_hk, hpL_hk'', rowUp_same, rowUp_two, updA_two, gI_ok s433, obind, hpI_hk', rowUp_same, updA_same, sI_ok s433, obind, setI_hk, hpI_hk', rowUp_same, rowUp_two, updA_two, nI_1, Nat.min_eq_left (by omega), Nat.min_eq_left (by omega), Nat.add_assoc])
    (fun st hQ => by
      subst hQ
      refine ⟨_, ?_, rfl⟩
      have hT := h.up (nI (b + (we X n b - b))) (k := 12) (by omega)
      show mX12_next_l90f 433 (hk σ (rowUp I 433 (updA (I 433) 12 (nI (b + (we X n b - b))))) (rowUp L 433 (updA (L 433) 21 (lN (pk27 (lts X b (min 6 (we X n b - b)))))))) = _
      rw [show b + (we X n b - b) = we X n b by omega] at hT ⊢
      unfold mX12_next_l90f mX12_next_b188
      have no : (decide (we X n b < n) && bet X 97 122 (we X n b)) = false := by
        by_cases q : we X n b < n
        · rw [show bet X 97 122 (we X n b) = false from rn_end (ok := bet X 97 122) q (by omega), Bool.and_false]
        · rw [decide_eq_false q, Bool.false_and]
      rw [gI_ok s433, obind, hpI_hk', rowUp_same, updA_same, see_ok hT (by omega), obind, in_l hT, obind, no, if_pos (show bI false = 0 from rfl), obind, gI_ok s433, obind, hpI_hk', rowUp_same, updA_ne _ _ (by omega), h13, nI_sub hge]
      by_cases q : 6 < we X n b - b
      · rw [if_pos (show (6 : Int32) < nI (we X n b - b) from nI_lt (a := 6) q (by omega)), if_pos q, sI_ok s433, obind, setI_hk, hpI_hk', rowUp_same, rowUp_two, xts]
      · rw [if_neg (show ¬ (6 : Int32) < nI (we X n b - b) from nI_nlt (a := 6) (by omega) (by omega)), if_neg q, sI_ok s433, obind, setI_hk, hpI_hk', rowUp_same, rowUp_two, xts]) (s := hk σ I L) (by
        show hk σ I L = hk σ (rowUp I 433 (updA (I 433) 12 (nI (b + 0)))) (rowUp L 433 (updA (L 433) 21 (lN (pk27 (lts X b (min 6 0))))))
        rw [Nat.add_zero, upI_id 433 12 _ h12, upL_id 433 21 _ (by rw [h21]; rfl)])
  exact e
theorem u12_15 (f : Nat → Int32) (x y x' : Int32) : updA (updA (updA f 12 x) 15 y) 12 x' = updA (updA f 12 x') 15 y := by
  funext k
  rw [updA_at, updA_at, updA_at, updA_at, updA_at]
  by_cases h : k = 12
  · rw [if_pos h, if_neg (by omega), if_pos h]
  · rw [if_neg h, if_neg h, if_neg h]
/-- a number -/
theorem l205_ok {X : Nat → Nat} {n b : Nat} (h : TM I X n) (h12 : I 433 12 = nI b) (h13 : I 433 13 = nI b) (h15 : I 433 15 = nI 0) (hb : b < n) :
    mX12_next_l205 433 (hk σ I L) = some (hk σ (rowUp I 433 (updA (updA (updA (I 433) 12 (nI (de X n b))) 15 (nI (dgs X b (min 3 (de X n b - b))))) 14 (if 3 < de X n b - b then 1 else 3))) L) := by
  have h480 := h.1
  have hge : b ≤ de X n b := rn_ge _ n b
  have hle : de X n b ≤ n := rn_le (by omega)
  unfold mX12_next_l205
  obtain ⟨o, e, rfl⟩ := lp_inv (f := fun s : Hp => mX12_next_l205f 433 s) (de X n b - b) (fun j st => st = hk σ (rowUp I 433 (updA (updA (I 433) 12 (nI (b + j))) 15 (nI (dgs X b (min 3 j))))) L)
    (fun o => o = hk σ (rowUp I 433 (updA (updA (updA (I 433) 12 (nI (de X n b))) 15 (nI (dgs X b (min 3 (de X n b - b))))) 14 (if 3 < de X n b - b then 1 else 3))) L)
    (fun j st hj hQ => by
      subst hQ
      refine ⟨_, ?_, rfl⟩
      have hbe : bet X 48 57 (b + j) = true := rn_in (ok := bet X 48 57) (n := n) (p := b) (by omega) (show b + j < de X n b by omega)
      have hbb := bet_on hbe
      have hT := (h.up (nI (b + j)) (k := 12) (by omega)).up (nI (dgs X b (min 3 j))) (k := 15) (by omega)
      rw [rowUp_same, rowUp_two] at hT
      have hX := (h.2.2 (b + j) (by omega)).1
      show mX12_next_l205f 433 (hk σ (rowUp I 433 (updA (updA (I 433) 12 (nI (b + j))) 15 (nI (dgs X b (min 3 j))))) L) = _
      unfold mX12_next_l205f mX12_next_b263
      rw [gI_ok s433, obind, hpI_hk', rowUp_same, updA_ne _ _ (by omega), updA_same, see_ok hT (by omega), obind, in_d hT, obind, decide_eq_true (show b + j < n by omega), hbe, if_neg (by decide), obind, gI_ok s433, obind, hpI_hk', rowUp_same, updA_ne _ _ (by omega), updA_ne _ _ (by omega), h13, nI_sub (by omega), Nat.add_sub_cancel_left]
      by_cases q : j < 3
      · rw [if_pos (show nI j < (3 : Int32) from nI_lt (b := 3) q (by omega)), gI_ok s433, obind, hpI_hk', rowUp_same, updA_same, obind, see_ok hT (by omega), obind]
        unfold sv
        rw [if_pos (show b + j < n by omega), show (10 : Int32) = nI 10 from rfl, show (48 : Int32) = nI 48 from rfl, pk_mul, nI_add, nI_sub (by omega), sI_ok s433, obind, setI_hk, hpI_hk', rowUp_same, rowUp_two, updA_two, gI_ok s433, obind, hpI_hk', rowUp_same, updA_ne _ _ (by omega), updA_same, sI_ok s433, obind, setI_hk, hpI_hk', rowUp_same, rowUp_two, u12_15, nI_1, Nat.min_eq_right (by omega), Nat.min_eq_right (by omega)]
        show some (Sum.inl (hk σ (rowUp I 433 (updA (updA (I 433) 12 (nI (b + j + 1))) 15 (nI (10 * dgs X b j + X (b + j) - 48)))) L)) = some (Sum.inl (hk σ (rowUp I 433 (updA (updA (I 433) 12 (nI (b + (j + 1)))) 15 (nI (dgs X b j * 10 + (X (b + j) - 48))))) L))
        rw [show 10 * dgs X b j + X (b + j) - 48 = dgs X b j * 10 + (X (b + j) - 48) by omega, Nat.add_assoc]
      · rw [if_neg (show ¬ nI j < (3 : Int32) from nI_nlt (b := 3) (by omega) (by omega)), gI_ok s433, obind, hpI_hk', rowUp_same, updA_same, sI_ok s433, obind, setI_hk, hpI_hk', rowUp_same, rowUp_two, updA_two, gI_ok s433, obind, hpI_hk', rowUp_same, updA_ne _ _ (by omega), updA_same, sI_ok s433, obind, setI_hk, hpI_hk', rowUp_same, rowUp_two, u12_15, nI_1, Nat.min_eq_left (by omega), Nat.min_eq_left (by omega), Nat.add_assoc])
    (fun st hQ => by
      subst hQ
      refine ⟨_, ?_, rfl⟩
      have hT := (h.up (nI (b + (de X n b - b))) (k := 12) (by omega)).up (nI (dgs X b (min 3 (de X n b - b)))) (k := 15) (by omega)
      rw [rowUp_same, rowUp_two] at hT
      show mX12_next_l205f 433 (hk σ (rowUp I 433 (updA (updA (I 433) 12 (nI (b + (de X n b - b)))) 15 (nI (dgs X b (min 3 (de X n b - b)))))) L) = _
      rw [show b + (de X n b - b) = de X n b by omega] at hT ⊢
      unfold mX12_next_l205f mX12_next_b298
      have no : (decide (de X n b < n) && bet X 48 57 (de X n b)) = false := by
        by_cases q : de X n b < n
        · rw [show bet X 48 57 (de X n b) = false from rn_end (ok := bet X 48 57) q (by omega), Bool.and_false]
        · rw [decide_eq_false q, Bool.false_and]
      rw [gI_ok s433, obind, hpI_hk', rowUp_same, updA_ne _ _ (by omega), updA_same, see_ok hT (by omega), obind, in_d hT, obind, no, if_pos (show bI false = 0 from rfl), obind, gI_ok s433, obind, hpI_hk', rowUp_same, updA_ne _ _ (by omega), updA_ne _ _ (by omega), h13, nI_sub hge]
      by_cases q : 3 < de X n b - b
      · rw [if_pos (show (3 : Int32) < nI (de X n b - b) from nI_lt (a := 3) q (by omega)), if_pos q, sI_ok s433, obind, setI_hk, hpI_hk', rowUp_same, rowUp_two, xts]
      · rw [if_neg (show ¬ (3 : Int32) < nI (de X n b - b) from nI_nlt (a := 3) (by omega) (by omega)), if_neg q, sI_ok s433, obind, setI_hk, hpI_hk', rowUp_same, rowUp_two, xts]) (s := hk σ I L) (by
        show hk σ I L = hk σ (rowUp I 433 (updA (updA (I 433) 12 (nI (b + 0))) 15 (nI (dgs X b (min 3 0))))) L
        rw [Nat.add_zero]
        have e1 := upI_id (I := I) 433 12 _ h12
        have e2 := upI_id (I := rowUp I 433 (updA (I 433) 12 (nI b))) 433 15 (nI (dgs X b (min 3 0))) (by rw [rowUp_same, updA_ne _ _ (by omega), h15]; rfl)
        rw [rowUp_same, rowUp_two, e1] at e2
        rw [e2])
  exact e
theorem mrk_if {α : Type} {c : Nat} (hc : c < 256) (A B : α) : (if nI c = (33 : Int32) then A else if nI c = (38 : Int32) then A else if nI c = (124 : Int32) then A else if nI c = (40 : Int32) then A else if nI c = (41 : Int32) then A else if nI c = (44 : Int32) then A else if nI c = (59 : Int32) then A else B) = if mrk c = true then A else B := by
  rw [show (33 : Int32) = nI 33 from rfl, show (38 : Int32) = nI 38 from rfl, show (124 : Int32) = nI 124 from rfl, show (40 : Int32) = nI 40 from rfl, show (41 : Int32) = nI 41 from rfl, show (44 : Int32) = nI 44 from rfl, show (59 : Int32) = nI 59 from rfl]
  rw [c_eqd (by omega) (by omega), c_eqd (by omega) (by omega), c_eqd (by omega) (by omega), c_eqd (by omega) (by omega), c_eqd (by omega) (by omega), c_eqd (by omega) (by omega), c_eqd (by omega) (by omega)]
  by_cases h1 : c = 33
  · rw [if_pos h1, if_pos (by simp [mrk, h1])]
  rw [if_neg h1]
  by_cases h2 : c = 38
  · rw [if_pos h2, if_pos (by simp [mrk, h2])]
  rw [if_neg h2]
  by_cases h3 : c = 124
  · rw [if_pos h3, if_pos (by simp [mrk, h3])]
  rw [if_neg h3]
  by_cases h4 : c = 40
  · rw [if_pos h4, if_pos (by simp [mrk, h4])]
  rw [if_neg h4]
  by_cases h5 : c = 41
  · rw [if_pos h5, if_pos (by simp [mrk, h5])]
  rw [if_neg h5]
  by_cases h6 : c = 44
  · rw [if_pos h6, if_pos (by simp [mrk, h6])]
  rw [if_neg h6]
  by_cases h7 : c = 59
  · rw [if_pos h7, if_pos (by simp [mrk, h7])]
  rw [if_neg h7, if_neg (by simp [mrk, h1, h2, h3, h4, h5, h6, h7])]
/-- next -/
theorem next_ok {X : Nat → Nat} {n p : Nat} (h : TM I X n) (hp : p ≤ n) (h12 : I 433 12 = nI p) : ∃ u q, mX12_next 433 (hk σ I L) = some (hk σ (rowUp I 433 u) (rowUp L 433 q)) ∧ MT (rowUp I 433 u) (rowUp L 433 q) X n (sk X n p) ∧ (∀ k, k ≠ 12 → k ≠ 13 → k ≠ 14 → k ≠ 15 → u k = I 433 k) ∧ ∀ k, k ≠ 21 → q k = L 433 k := by
  have h480 := h.1
  have hge : p ≤ sk X n p := rn_ge _ n p
  have hle : sk X n p ≤ n := rn_le hp
  unfold mX12_next mX12_next_l0
  rw [if_pos s433]
  obtain ⟨o, e, u, q, rfl, r⟩ := lp_inv (f := fun s : Hp => mX12_next_l0f 433 s) (sk X n p - p) (fun j st => st = hk σ (rowUp I 433 (updA (I 433) 12 (nI (p + j)))) L)
    (fun o => ∃ u q, o = hk σ (rowUp I 433 u) (rowUp L 433 q) ∧ MT (rowUp I 433 u) (rowUp L 433 q) X n (sk X n p) ∧ (∀ k, k ≠ 12 → k ≠ 13 → k ≠ 14 → k ≠ 15 → u k = I 433 k) ∧ ∀ k, k ≠ 21 → q k = L 433 k)
    (fun j st hj hQ => by
      subst hQ
      refine ⟨_, ?_, rfl⟩
      have hb : blk X (p + j) = true := rn_in (ok := blk X) (n := n) (p := p) (by omega) (show p + j < sk X n p by omega)
      have hT := h.up (nI (p + j)) (k := 12) (by omega)
      have hX := (h.2.2 (p + j) (by omega)).1
      have b26 : mX12_next_b26 433 (hk σ (rowUp I 433 (updA (I 433) 12 (nI (p + j)))) L) = some (Sum.inl (hk σ (rowUp I 433 (updA (I 433) 12 (nI (p + (j + 1))))) L)) := by
        unfold mX12_next_b26
        rw [gI_ok s433, obind, hpI_hk', rowUp_same, updA_same, sI_ok s433, obind, setI_hk, hpI_hk', rowUp_same, rowUp_two, updA_two, nI_1, Nat.add_assoc]
      show mX12_next_l0f 433 (hk σ (rowUp I 433 (updA (I 433) 12 (nI (p + j)))) L) = _
      unfold mX12_next_l0f
      rw [gI_ok s433, obind, hpI_hk', rowUp_same, updA_same, see_ok hT (by omega), obind]
      have es : sv X n (p + j) = nI (X (p + j)) := by unfold sv; rw [if_pos (by omega)]
      rw [es]
      by_cases q : X (p + j) = 32
      · rw [if_pos (show nI (X (p + j)) = (32 : Int32) by rw [q]; rfl), b26]
      · have q2 : X (p + j) = 10 := by
          unfold blk at hb
          rw [decide_eq_false q, Bool.false_or, decide_eq_true_eq] at hb
          exact hb
        rw [if_neg (show ¬ nI (X (p + j)) = (32 : Int32) by rw [q2]; decide), obind, see_ok hT (by omega), obind, es, if_pos (show nI (X (p + j)) = (10 : Int32) by rw [q2]; rfl), b26])
    (fun st hQ => by
      subst hQ
      rw [show p + (sk X n p - p) = sk X n p by omega]
      obtain ⟨b, hb⟩ : ∃ b, b = sk X n p := ⟨_, rfl⟩
      have nbk : b < n → blk X b = false := fun q => by rw [hb]; exact rn_end (ok := blk X) (by rw [hb] at q; exact q) hp
      rw [← hb] at hle hge ⊢
      clear hb
      have hT := h.up (nI b) (k := 12) (by omega)
      have n32 : ¬ sv X n b = (32 : Int32) := fun q => by
        unfold sv at q
        by_cases e : b < n
        · rw [if_pos e] at q
          have := (h.2.2 b e).1
          rw [show (32 : Int32) = nI 32 from rfl, nI_eq' (by omega) (by omega)] at q
          exact (blk_no (nbk e)).1 q
        · rw [if_neg e] at q; cases q
      have n10 : ¬ sv X n b = (10 : Int32) := fun q => by
        unfold sv at q
        by_cases e : b < n
        · rw [if_pos e] at q
          have := (h.2.2 b e).1
          rw [show (10 : Int32) = nI 10 from rfl, nI_eq' (by omega) (by omega)] at q
          exact (blk_no (nbk e)).2 q
        · rw [if_neg e] at q; cases q
      show ∃ r, mX12_next_l0f 433 (hk σ (rowUp I 433 (updA (I 433) 12 (nI b))) L) = some (Sum.inr r) ∧ _
      unfold mX12_next_l0f
      rw [gI_ok s433, obind, hpI_hk', rowUp_same, updA_same, see_ok hT (by omega), obind, if_neg n32, obind, see_ok hT (by omega), obind, if_neg n10, obind, sI_ok s433, obind, setI_hk, hpI_hk', rowUp_same, rowUp_two, sI_ok s433, obind, setI_hk, hpI_hk', rowUp_same, rowUp_two, sL_ok s433, obind, setL_hk, hpL_hk'']
      obtain ⟨u3, hu3⟩ : ∃ u3, u3 = updA (updA (updA (I 433) 12 (nI b)) 13 (nI b)) 15 (0 : Int32) := ⟨_, rfl⟩
      obtain ⟨q3, hq3⟩ : ∃ q3, q3 = updA (L 433) 21 (0 : Int64) := ⟨_, rfl⟩
      rw [← hu3, ← hq3]
      have u12 : u3 12 = nI b := by rw [hu3, updA_ne _ _ (by omega), updA_ne _ _ (by omega), updA_same]
      have u13 : u3 13 = nI b := by rw [hu3, updA_ne _ _ (by omega), updA_same]
      have u15 : u3 15 = nI 0 := by rw [hu3, updA_same]; rfl
      have uk : ∀ k, k ≠ 12 → k ≠ 13 → k ≠ 15 → u3 k = I 433 k := fun k a c d => by rw [hu3, updA_ne _ _ d, updA_ne _ _ c, updA_ne _ _ a]
      have q21 : q3 21 = lN 0 := by rw [hq3, updA_same]; rfl
      have qk : ∀ k, k ≠ 21 → q3 k = L 433 k := fun k a => by rw [hq3, updA_ne _ _ a]
      clear hu3 hq3
      have hT3 : TM (rowUp I 433 u3) X n := ⟨h.1, by rw [rowUp_same, uk 11 (by omega) (by omega) (by omega)]; exact h.2.1, fun i hi => by rw [rowUp_ne _ _ (by omega)]; exact h.2.2 i hi⟩
      rw [gI_ok s433, obind, hpI_hk', rowUp_same, u12, see_ok hT3 (by omega), obind]
      by_cases hbn : b < n
      · have hX := (h.2.2 b hbn).1
        have es : sv X n b = nI (X b) := by unfold sv; rw [if_pos hbn]
        rw [in_l hT3, obind, decide_eq_true hbn, Bool.true_and]
        rw [if_neg (show ¬ sv X n b = (-1 : Int32) by rw [es]; exact nI_nm1 (by omega))]
        cases hl : bet X 97 122 b with
        | true =>
          have e := l90_ok (σ := σ) hT3 (L := rowUp L 433 q3) (b := b) (by rw [rowUp_same, u12]) (by rw [rowUp_same, u13]) (by rw [rowUp_same, q21]) hbn
          rw [if_neg (by decide), e, xts, rowUp_same, rowUp_same, rowUp_two, rowUp_two]
          refine ⟨_, rfl, _, _, rfl, ⟨?_, ?_, ?_, ?_, ?_⟩, fun k a c d f => ?_, fun k a => ?_⟩
          · rw [rowUp_same, updA_ne _ _ (by omega), updA_same, te, if_neg (by omega), if_pos hl]
          · rw [rowUp_same, updA_ne _ _ (by omega), updA_ne _ _ (by omega), u13]
          · have em := (show mtk X n b = _ from by unfold mtk; rw [if_neg (show ¬ n ≤ b by omega), if_pos hl])
            rw [rowUp_same, updA_same, em]
            by_cases q : 6 < we X n b - b
            · rw [if_pos q, if_pos q]; rfl
            · rw [if_neg q, if_neg q]; rfl
          · rw [rowUp_same, updA_ne _ _ (by omega), updA_ne _ _ (by omega), u15, mvl, if_neg (by omega), if_pos hl]
          · rw [rowUp_same, updA_same, mwd, if_neg (by omega), if_pos hl]
          · rw [updA_ne _ _ d, updA_ne _ _ a, uk k a c f]
          · rw [updA_ne _ _ a, qk k a]
        | false =>
          have hl' : ¬ bet X 97 122 b = true := by rw [hl]; exact Bool.false_ne_true
          rw [if_pos (show bI false = 0 from rfl), in_d hT3, obind, decide_eq_true hbn, Bool.true_and]
          cases hd : bet X 48 57 b with
          | true =>
            have e := l205_ok (σ := σ) hT3 (L := rowUp L 433 q3) (b := b) (by rw [rowUp_same, u12]) (by rw [rowUp_same, u13]) (by rw [rowUp_same, u15]) hbn
            rw [if_neg (by decide), e, xts, rowUp_same, rowUp_two]
            refine ⟨_, rfl, _, _, rfl, ⟨?_, ?_, ?_, ?_, ?_⟩, fun k a c d f => ?_, fun k a => ?_⟩
            · rw [rowUp_same, updA_ne _ _ (by omega), updA_ne _ _ (by omega), updA_same, te, if_neg (by omega), if_neg hl', if_pos hd]
            · rw [rowUp_same, updA_ne _ _ (by omega), updA_ne _ _ (by omega), updA_ne _ _ (by omega), u13]
            · have em := (show mtk X n b = _ from by unfold mtk; rw [if_neg (show ¬ n ≤ b by omega), if_neg hl', if_pos hd])
              rw [rowUp_same, updA_same, em]
              by_cases q : 3 < de X n b - b
              · rw [if_pos q, if_pos q]; rfl
              · rw [if_neg q, if_neg q]; rfl
            · rw [rowUp_same, updA_ne _ _ (by omega), updA_same, mvl, if_neg (by omega), if_neg hl', if_pos hd]
            · rw [rowUp_same, q21, mwd, if_neg (by omega), if_neg hl']
            · rw [updA_ne _ _ d, updA_ne _ _ f, updA_ne _ _ a, uk k a c f]
            · exact qk k a
          | false =>
            have hd' : ¬ bet X 48 57 b = true := by rw [hd]; exact Bool.false_ne_true
            rw [if_pos (show bI false = 0 from rfl), obind, sI_ok s433, obind, setI_hk, hpI_hk', rowUp_same, rowUp_two, sI_ok s433, obind, setI_hk, hpI_hk', rowUp_same, rowUp_two, es, mrk_if hX]
            have e : (if mrk (X b) = true then mX12_next_b362 433 (hk σ (rowUp I 433 (updA (updA u3 12 (nI b + 1)) 15 (nI (X b)))) (rowUp L 433 q3)) else mX12_next_b367 433 (1 : Int32) (hk σ (rowUp I 433 (updA (updA u3 12 (nI b + 1)) 15 (nI (X b)))) (rowUp L 433 q3))) = some (hk σ (rowUp I 433 (updA (updA (updA u3 12 (nI (b + 1))) 15 (nI (X b))) 14 (if mrk (X b) = true then 4 else 1))) (rowUp L 433 q3)) := by
              unfold mX12_next_b362 mX12_next_b367
              by_cases q : mrk (X b) = true
              · rw [if_pos q, if_pos q, sI_ok s433, obind, setI_hk, hpI_hk', rowUp_same, rowUp_two, nI_1]
              · rw [if_neg q, if_neg q, sI_ok s433, obind, setI_hk, hpI_hk', rowUp_same, rowUp_two, nI_1]
            rw [e, xts]
            refine ⟨_, rfl, _, _, rfl, ⟨?_, ?_, ?_, ?_, ?_⟩, fun k a c d f => ?_, fun k a => ?_⟩
            · rw [rowUp_same, updA_ne _ _ (by omega), updA_ne _ _ (by omega), updA_same, te, if_neg (by omega), if_neg hl', if_neg hd']
            · rw [rowUp_same, updA_ne _ _ (by omega), updA_ne _ _ (by omega), updA_ne _ _ (by omega), u13]
            · have em := (show mtk X n b = _ from by unfold mtk; rw [if_neg (show ¬ n ≤ b by omega), if_neg hl', if_neg hd'])
              rw [rowUp_same, updA_same, em]
              by_cases q : mrk (X b) = true
              · rw [if_pos q, if_pos q]; rfl
              · rw [if_neg q, if_neg q]; rfl
            · rw [rowUp_same, updA_ne _ _ (by omega), updA_same, mvl, if_neg (by omega), if_neg hl', if_neg hd']
            · rw [rowUp_same, q21, mwd, if_neg (by omega), if_neg hl']
            · rw [updA_ne _ _ d, updA_ne _ _ f, updA_ne _ _ a, uk k a c f]
            · exact qk k a
      · have es : sv X n b = -1 := by unfold sv; rw [if_neg hbn]
        rw [es, if_pos rfl, sI_ok s433, obind, setI_hk, hpI_hk', rowUp_same, rowUp_two, xts]
        refine ⟨_, rfl, _, _, rfl, ⟨?_, ?_, ?_, ?_, ?_⟩, fun k a c d f => ?_, fun k a => qk k a⟩
        · rw [rowUp_same, updA_ne _ _ (by omega), u12, te, if_pos (by omega), show b = n by omega]
        · rw [rowUp_same, updA_ne _ _ (by omega), u13]
        · rw [rowUp_same, updA_same, mtk, if_pos (by omega)]; rfl
        · rw [rowUp_same, updA_ne _ _ (by omega), u15, mvl, if_pos (by omega)]
        · rw [rowUp_same, q21, mwd, if_pos (by omega)]
        · rw [updA_ne _ _ d, uk k a c f]) (s := hk σ I L) (by
        show hk σ I L = hk σ (rowUp I 433 (updA (I 433) 12 (nI (p + 0)))) L
        rw [Nat.add_zero, upI_id 433 12 _ h12])
  exact ⟨u, q, e, r⟩
end Next
