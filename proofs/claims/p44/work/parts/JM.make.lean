/-! THE CONSTRUCTORS: a heap that grows -/
def lB (l : List (Nat × Nat × Nat)) (k : Nat) : Prop := ∀ e ∈ l, e.1 < k
theorem lB.c {l : List (Nat × Nat × Nat)} {k a j v : Nat} (h : a < k) (hl : lB l k) : lB ((a, j, v) :: l) k := List.forall_mem_cons.mpr ⟨h, hl⟩
theorem lB.m {l : List (Nat × Nat × Nat)} {k k' : Nat} (hl : lB l k) (h : k ≤ k') : lB l k' := fun e he => Nat.lt_of_lt_of_le (hl e he) h
theorem lB.z {l : List (Nat × Nat × Nat)} {k : Nat} (hl : lB l k) (j : Nat) : lookR k j l = 0 := by
  induction l with
  | nil => rfl
  | cons e l ih =>
    obtain ⟨b, i, x⟩ := e
    have h := List.forall_mem_cons.mp hl
    have h1 : b < k := h.1
    show (if k = b ∧ j = i then x else lookR k j l) = 0
    rw [if_neg (fun q => by omega)]
    exact ih h.2
def Qh (n : En) (k M : Nat) (l : List (Nat × Nat × Nat)) (I : Nat → Nat → Int32) (L : Nat → Nat → Int64) : Hp := ((fun a => if a < k then SH n a else (0, 0)), I, L, (fun a j => lookR a j l), k, M)
section Make
variable {n : En} {k M a s m c j v : Nat} {l : List (Nat × Nat × Nat)} {I : Nat → Nat → Int32} {L : Nat → Nat → Int64}
theorem Q_new {kd : Nat} (h : SH n k = (kd, m)) (hI : I k = fun _ => 0) (hL : L k = fun _ => 0) (hl : lB l k) : hpNew kd m (Qh n k M l I L) = Qh n (k + 1) (M + m) l I L := by
  have e1 : (fun a => if a = k then (kd, m) else if a < k then SH n a else (0, 0)) = fun a => if a < k + 1 then SH n a else (0, 0) := by
    funext a
    by_cases e : a = k
    · subst e; rw [if_pos rfl, if_pos (by omega), h]
    · rw [if_neg e]
      by_cases q : a < k
      · rw [if_pos q, if_pos (by omega)]
      · rw [if_neg q, if_neg (by omega)]
  have e2 : (fun a j => if a = k then 0 else I a j) = I := by
    funext a j
    by_cases e : a = k
    · subst e; rw [if_pos rfl, hI]
    · rw [if_neg e]
  have e3 : (fun a j => if a = k then 0 else L a j) = L := by
    funext a j
    by_cases e : a = k
    · subst e; rw [if_pos rfl, hL]
    · rw [if_neg e]
  have e4 : (fun a j => if a = k then 0 else lookR a j l) = fun a j => lookR a j l := by
    funext a j
    by_cases e : a = k
    · subst e; rw [if_pos rfl, hl.z]
    · rw [if_neg e]
  show ((fun a => if a = k then (kd, m) else if a < k then SH n a else (0, 0)), (fun a j => if a = k then 0 else I a j), (fun a j => if a = k then 0 else L a j), (fun a j => if a = k then 0 else lookR a j l), k + 1, M + m) = _
  rw [e1, e2, e3, e4]
  rfl
theorem newO_Q (hk : 100 ≤ k) (h : SH n k = (c + 1, m)) (hZ : I k = (fun _ => 0) ∧ L k = fun _ => 0) (hl : lB l k) : newO c m (Qh n k M l I L) = some (k, Qh n (k + 1) (M + m) l I L) := by
  unfold newO
  rw [Q_new h hZ.1 hZ.2 hl]
  exact if_pos (show 99 ≤ k by omega)
theorem newA_Q {kd : Nat} (hk : 100 ≤ k) (h : SH n k = (kd, m)) (hZ : I k = (fun _ => 0) ∧ L k = fun _ => 0) (hl : lB l k) : newA kd m (Qh n k M l I L) = some (k, Qh n (k + 1) (M + m) l I L) := by
  unfold newA
  rw [Q_new h hZ.1 hZ.2 hl]
  exact if_pos (show 99 ≤ k by omega)
theorem hpS_Q (ha : a < k) : hpS (Qh n k M l I L) a = SH n a := if_pos ha
theorem upR_Q : upR (Qh n k M l I L) a j v = Qh n k M ((a, j, v) :: l) I L := rfl
theorem sR_Q (ha : a < k) (h : SH n a = (c + 1, m)) : sR c j a v (Qh n k M l I L) = some (Qh n k M ((a, j, v) :: l) I L) := by
  unfold sR
  rw [hpS_Q ha, h, if_pos rfl, upR_Q]
theorem gR_Q (ha : a < k) (h : SH n a = (c + 1, m)) : gR c j a (Qh n k M l I L) = some (lookR a j l) := by
  unfold gR
  rw [hpS_Q ha, h, if_pos rfl]
  rfl
theorem stR_Q {i m' : Nat} (ha : a < k) (h : SH n a = (60 + c, m)) (hi : i < m) (h31 : m < 2147483648) (hv : v < k) (h' : SH n v = (c + 1, m')) : stR c a (nI i) v (Qh n k M l I L) = some (Qh n k M ((a, i, v) :: l) I L) := by
  unfold stR
  rw [hpS_Q ha, h, hpS_Q hv, h', inB_nI (by omega), ixN_nI (by omega), if_pos ⟨⟨rfl, by simpa using hi⟩, rfl⟩, upR_Q]
theorem aLen_Q {kd : Nat} (ha : a < k) (h : SH n a = (kd, m)) (hk : aKd kd = true) : aLen a (Qh n k M l I L) = some (nI m) := aLen_ok (by rw [hpS_Q ha]; exact h) hk
theorem upI_Q {i : Nat} {x : Int32} : upI (Qh n k M l I L) a i x = Qh n k M l (rowUp I a (updA (I a) i x)) L := by
  have e : up2 I a i x = rowUp I a (updA (I a) i x) := by
    funext b j
    unfold up2
    rw [rowUp_at]
    by_cases q : b = a
    · subst q
      rw [if_pos rfl, updA_at]
      by_cases p : j = i
      · rw [if_pos ⟨rfl, p⟩, if_pos p]
      · rw [if_neg (fun z => p z.2), if_neg p]
    · rw [if_neg (fun z => q z.1), if_neg q]
  unfold Qh upI
  exact congrArg (fun J => ((fun a => if a < k then SH n a else (0, 0)), J, L, (fun a j => lookR a j l), k, M)) e
theorem sI_Q {i : Nat} {x : Int32} (ha : a < k) (h : SH n a = (c + 1, m)) : sI c i a x (Qh n k M l I L) = some (Qh n k M l (rowUp I a (updA (I a) i x)) L) := by
  unfold sI
  rw [hpS_Q ha, h, if_pos rfl, upI_Q]
theorem stI_Q {i : Nat} {x : Int32} (ha : a < k) (h : SH n a = (50, m)) (hi : i < m) (h31 : m < 2147483648) : stI a (nI i) x (Qh n k M l I L) = some (Qh n k M l (rowUp I a (updA (I a) i x)) L) := by
  unfold stI
  rw [hpS_Q ha, h, inB_nI (by omega), ixN_nI (by omega), if_pos ⟨rfl, by simpa using hi⟩, upI_Q]
theorem put_Q {i : Nat} {x : Int32} (ha : a < k) (h : SH n a = (50, m)) (hi : i < m) (h31 : m < 2147483648) : mX11_put a (nI i) x (Qh n k M l I L) = some (Qh n k M l (rowUp I a (updA (I a) i x)) L) := by
  unfold mX11_put
  rw [if_neg (nI_pos (by omega)), aLen_Q ha h rfl, obind, if_pos (nI_lt hi (by omega)), stI_Q ha h hi h31, obind]
theorem at_Q {i : Nat} (ha : a < k) (h : SH n a = (50, m)) (hi : i < m) (h31 : m < 2147483648) : mX11_at a (nI i) (Qh n k M l I L) = some (I a i) := by
  unfold mX11_at
  rw [if_neg (nI_pos (by omega)), aLen_Q ha h rfl, obind, if_pos (nI_lt hi (by omega)), ldI_ok (n := m) (by rw [hpS_Q ha]; exact h) hi h31, obind]
  rfl
/-- one object -/
theorem i10 (ha : a < k) (h1 : SH n a = (11, 1)) (hk : 100 ≤ k) (h2 : SH n k = (51, 4)) (hZ : I k = (fun _ => 0) ∧ L k = fun _ => 0) (hl : lB l k) : mX10_init a (Qh n k M l I L) = some (Qh n (k + 1) (M + 4) ((a, 0, k) :: l) I L) := by
  unfold mX10_init
  rw [newA_Q hk h2 hZ hl, b2s, sR_Q (by omega) h1, obind]
def zSl (s : Nat) : List (Nat × Nat × Nat) := [(s, 14, s + 6), (s, 13, s + 5), (s, 12, s + 4), (s, 11, s + 3), (s, 10, s + 2), (s, 9, s + 1)]
theorem SH_st {n : En} (hs : isSt s) : SH n s = (6, 15) ∧ ∀ j, 1 ≤ j → j < 7 → SH n (s + j) = (50, 8) := by
  refine ⟨SH_st0 hs, fun j h1 h2 => ?_⟩
  rcases (show j = 1 ∨ j = 2 ∨ j = 3 ∨ j = 4 ∨ j = 5 ∨ j = 6 by omega) with rfl | rfl | rfl | rfl | rfl | rfl
  · exact SH_st1 hs
  · exact SH_st2 hs
  · exact SH_st3 hs
  · exact SH_st4 hs
  · exact SH_st5 hs
  · exact SH_st6 hs
theorem i5 (hs : isSt s) (hZ : ∀ x, s + 1 ≤ x → I x = (fun _ => 0) ∧ L x = fun _ => 0) (hl : lB l (s + 1)) : mX5_init s (Qh n (s + 1) M l I L) = some (Qh n (s + 7) (M + 48) (zSl s ++ l) I L) := by
  obtain ⟨s0, sj⟩ := SH_st (n := n) hs
  have h100 : 100 ≤ s := by unfold isSt at hs; omega
  unfold mX5_init
  rw [newA_Q (by omega) (sj 1 (by omega) (by omega)) (hZ _ (by omega)) hl, b2s, sR_Q (by omega) s0, obind, newA_Q (by omega) (sj 2 (by omega) (by omega)) (hZ _ (by omega)) (by (repeat (refine lB.c (by omega) ?_)); exact hl.m (by omega)), b2s, sR_Q (by omega) s0, obind, newA_Q (by omega) (sj 3 (by omega) (by omega)) (hZ _ (by omega)) (by (repeat (refine lB.c (by omega) ?_)); exact hl.m (by omega)), b2s, sR_Q (by omega) s0, obind, newA_Q (by omega) (sj 4 (by omega) (by omega)) (hZ _ (by omega)) (by (repeat (refine lB.c (by omega) ?_)); exact hl.m (by omega)), b2s, sR_Q (by omega) s0, obind, newA_Q (by omega) (sj 5 (by omega) (by omega)) (hZ _ (by omega)) (by (repeat (refine lB.c (by omega) ?_)); exact hl.m (by omega)), b2s, sR_Q (by omega) s0, obind, newA_Q (by omega) (sj 6 (by omega) (by omega)) (hZ _ (by omega)) (by (repeat (refine lB.c (by omega) ?_)); exact hl.m (by omega)), b2s, sR_Q (by omega) s0, obind]
  rfl
end Make
