/-! pleas of a told COUNT, BACKs, FAILINGs, in words of T and N -/
def plq (T : Nat → Nat) (b p : Nat) : Bool := decide (T (66 + p) = b)
/-- the i-th of those with a property -/
def ith (q : Nat → Bool) (n i : Nat) : Option Nat := fstB (fun p => q p && decide (cntB q p = i)) n
theorem cntB_mono (q : Nat → Bool) {a b : Nat} (h : a ≤ b) : cntB q a ≤ cntB q b := by
  obtain ⟨d, rfl⟩ : ∃ d, b = a + d := ⟨b - a, by omega⟩
  rw [cntB_add]; omega
theorem ith_none {q : Nat → Bool} {n i : Nat} : ith q n i = none ↔ cntB q n ≤ i := by
  unfold ith
  rw [fstB_none]
  constructor
  · intro h
    induction n with
    | zero => exact Nat.zero_le _
    | succ n ih =>
      have h1 := ih fun j hj => h j (by omega)
      have h2 := h n (by omega)
      simp only [cntB]
      cases hq : q n
      · simp; exact h1
      · rw [hq] at h2
        simp at h2 ⊢
        omega
  · intro h j hj
    cases hq : q j
    · rfl
    · have h1 : cntB q (j + 1) ≤ cntB q n := cntB_mono q (by omega)
      simp only [cntB] at h1
      rw [hq] at h1
      simp at h1 ⊢
      omega
/-- BACK out of others' BACKs, as far as COUNTS below m -/
def bkF (B N : Nat → Nat) (k S : Nat) : Nat → Nat
  | 0 => it N k 1
  | o + 1 => if S ≠ 0 ∧ it N o 1 < it N k 1 ∧ pc S ≤ 2 * pc (it N o 4 &&& S) then min (bkF B N k S o) (B o) else bkF B N k S o
def BK (N : Nat → Nat) : Nat → Nat → Nat
  | 0 => fun _ => 0
  | n + 1 => updA (BK N n) n (bkF (BK N n) N n (it N n 4) n)
def bk (N : Nat → Nat) (k : Nat) : Nat := BK N (k + 1) k
theorem BK_st (N : Nat → Nat) {m j : Nat} (h : j < m) : BK N m j = bk N j := by
  induction m with
  | zero => omega
  | succ m ih =>
    by_cases e : j = m
    · subst e; rfl
    · simp only [BK]; rw [updA_at, if_neg e]; exact ih (by omega)
theorem bkF_congr {B B' N : Nat → Nat} {k S m : Nat} (h : ∀ o, o < m → it N o 1 < it N k 1 → B o = B' o) : bkF B N k S m = bkF B' N k S m := by
  induction m with
  | zero => rfl
  | succ m ih =>
    simp only [bkF]
    rw [ih fun o ho => h o (by omega)]
    by_cases h1 : S ≠ 0 ∧ it N m 1 < it N k 1 ∧ pc S ≤ 2 * pc (it N m 4 &&& S)
    · rw [if_pos h1, if_pos h1, h m (by omega) h1.2.1]
    · rw [if_neg h1, if_neg h1]
theorem bkF_le (B N : Nat → Nat) (k S m : Nat) : bkF B N k S m ≤ it N k 1 := by
  induction m with
  | zero => exact Nat.le_refl _
  | succ m ih => simp only [bkF]; split <;> omega
theorem bkF_0 (B N : Nat → Nat) (k m : Nat) : bkF B N k 0 m = it N k 1 := by
  induction m with
  | zero => rfl
  | succ m ih => simp only [bkF]; rw [if_neg (by simp)]; exact ih
/-- later ones add nothing -/
theorem bkF_cut {B N : Nat → Nat} {k S m : Nat} (hk' : k ≤ m) (h : ∀ o, k ≤ o → o < m → it N k 1 ≤ it N o 1) : bkF B N k S m = bkF B N k S k := by
  induction m with
  | zero => have : k = 0 := by omega
            subst this; rfl
  | succ m ih =>
    by_cases e : k = m + 1
    · rw [e]
    · have h1 := h m (by omega) (by omega)
      simp only [bkF]
      rw [if_neg (by omega)]
      exact ih (by omega) fun o h1 h2 => h o h1 (by omega)
theorem bk_eq (N : Nat → Nat) (k : Nat) : bk N k = bkF (bk N) N k (it N k 4) k := by
  unfold bk
  simp only [BK]
  rw [updA_at, if_pos rfl]
  exact bkF_congr fun o ho _ => BK_st N ho
theorem bk_le (N : Nat → Nat) (k : Nat) : bk N k ≤ it N k 1 := by rw [bk_eq]; exact bkF_le _ _ _ _ _
def sure (T : Nat → Nat) (f : Nat → Bool) (e : Nat) : Bool := allB (fun w => !f w || ev T e w) 256
def meets (T : Nat → Nat) (f : Nat → Bool) (e : Nat) : Bool := anyB (fun w => f w && ev T e w) 256
/-- FAILING of a COUNT, were it to say these -/
def fls (T N : Nat → Nat) (k S So : Nat) : Nat :=
  if it N k 6 = 1 then 1 else if anyB (agr T S So) 256 = false then 2
  else if allB (fun i => sure T (agr T S So) (T (31 + 4 * it N k 0 + i))) (T (26 + it N k 0)) = false then 3
  else if allB (fun i => meets T (lft T N) (T (31 + 4 * it N k 0 + i))) (T (26 + it N k 0)) = false then 4
  else if anyB (fun p => plq T (it N k 0) p && (sure T (agr T S So) (T (72 + p)) || sure T (lft T N) (T (72 + p)))) (T 4) = true then 5
  else if T 5 < it N k 3 + bkF (bk N) N k S k then 6 else 0
def stnd (T N : Nat → Nat) : Nat := bs (fun k => decide (fls T N k (it N k 4) (it N k 5) = 0)) (N 18)
section MGET
variable {σ : Sg} {I : Nat → Nat → Int32} {L : Nat → Nat → Int64}
end MGET
