/-! TOKENS: what they are, and the class's split -/
def runE (ok : Nat → Bool) : Nat → Nat → Nat
  | 0, p => p
  | m + 1, p => if ok p = true then runE ok m (p + 1) else p
def rn (ok : Nat → Bool) (n p : Nat) : Nat := runE ok (n - p) p
theorem rn_on {ok : Nat → Bool} {n p : Nat} (h : p < n) (ho : ok p = true) : rn ok n p = rn ok n (p + 1) := by
  unfold rn
  rw [show n - p = (n - (p + 1)) + 1 by omega]
  show (if ok p = true then runE ok (n - (p + 1)) (p + 1) else p) = _
  rw [if_pos ho]
theorem rn_off {ok : Nat → Bool} {n p : Nat} (h : n ≤ p ∨ ok p = false) : rn ok n p = p := by
  unfold rn
  cases hm : n - p with
  | zero => rfl
  | succ m =>
    show (if ok p = true then runE ok m (p + 1) else p) = _
    rw [if_neg]
    rcases h with h | h
    · omega
    · rw [h]; exact Bool.false_ne_true
theorem runE_b (ok : Nat → Bool) : ∀ m p, p ≤ runE ok m p ∧ runE ok m p ≤ p + m ∧ (∀ i, p ≤ i → i < runE ok m p → ok i = true) ∧ (runE ok m p < p + m → ok (runE ok m p) = false) := by
  intro m
  induction m with
  | zero => intro p; exact ⟨Nat.le_refl _, Nat.le_refl _, fun i a b => by have : i < p := b; omega, fun a => by have : p < p := a; omega⟩
  | succ m ih =>
    intro p
    cases hp : ok p with
    | true =>
      have e : runE ok (m + 1) p = runE ok m (p + 1) := by show (if ok p = true then runE ok m (p + 1) else p) = _; rw [if_pos hp]
      rw [e]
      obtain ⟨a, b, c, d⟩ := ih (p + 1)
      refine ⟨by omega, by omega, fun i h1 h2 => ?_, fun h => d (by omega)⟩
      by_cases e : i = p
      · rw [e]; exact hp
      · exact c i (by omega) h2
    | false =>
      have e : runE ok (m + 1) p = p := by show (if ok p = true then runE ok m (p + 1) else p) = _; rw [if_neg (by rw [hp]; exact Bool.false_ne_true)]
      rw [e]
      exact ⟨Nat.le_refl _, by omega, fun i a b => by omega, fun _ => hp⟩
theorem rn_ge (ok : Nat → Bool) (n p : Nat) : p ≤ rn ok n p := (runE_b ok _ _).1
theorem rn_le {ok : Nat → Bool} {n p : Nat} (h : p ≤ n) : rn ok n p ≤ n := by have := (runE_b ok (n - p) p).2.1; unfold rn; omega
theorem rn_in {ok : Nat → Bool} {n p i : Nat} (h1 : p ≤ i) (h2 : i < rn ok n p) : ok i = true := (runE_b ok _ _).2.2.1 i h1 h2
theorem rn_end {ok : Nat → Bool} {n p : Nat} (h : rn ok n p < n) (hp : p ≤ n) : ok (rn ok n p) = false := (runE_b ok (n - p) p).2.2.2 (by unfold rn at h; omega)
def bet (X : Nat → Nat) (lo hi i : Nat) : Bool := decide (lo ≤ X i) && decide (X i ≤ hi)
theorem bet_on {X : Nat → Nat} {lo hi i : Nat} (h : bet X lo hi i = true) : lo ≤ X i ∧ X i ≤ hi := by
  unfold bet at h
  rw [Bool.and_eq_true, decide_eq_true_eq, decide_eq_true_eq] at h
  exact h
theorem bet_no {X : Nat → Nat} {lo hi i : Nat} (h : bet X lo hi i = false) : X i < lo ∨ hi < X i := by
  have : ¬ (lo ≤ X i ∧ X i ≤ hi) := fun q => by
    have : bet X lo hi i = true := by unfold bet; rw [decide_eq_true q.1, decide_eq_true q.2]; rfl
    rw [h] at this; cases this
  omega
def blk (X : Nat → Nat) (i : Nat) : Bool := decide (X i = 32) || decide (X i = 10)
def mrk (c : Nat) : Bool := decide (c = 33) || decide (c = 38) || decide (c = 124) || decide (c = 40) || decide (c = 41) || decide (c = 44) || decide (c = 59)
/-- letters from a place on, the last first -/
def lts (X : Nat → Nat) (b : Nat) : Nat → List Nat
  | 0 => []
  | m + 1 => (X (b + m) - 96) :: lts X b m
def dgs (X : Nat → Nat) (b : Nat) : Nat → Nat
  | 0 => 0
  | m + 1 => dgs X b m * 10 + (X (b + m) - 48)
def sk (X : Nat → Nat) (n p : Nat) : Nat := rn (blk X) n p
def we (X : Nat → Nat) (n b : Nat) : Nat := rn (bet X 97 122) n b
def de (X : Nat → Nat) (n b : Nat) : Nat := rn (bet X 48 57) n b
/-- where the token ends that begins here -/
def te (X : Nat → Nat) (n b : Nat) : Nat := if n ≤ b then n else if bet X 97 122 b = true then we X n b else if bet X 48 57 b = true then de X n b else b + 1
def wkF (v : Nat) : Nat → Nat → Nat
  | 0, k => k
  | w + 1, k => if pk5 (rsW.getD w []) = v then 256 + w else wkF v w k
/-- kind and value, as the class has them -/
def ck (X : Nat → Nat) (n b : Nat) : Nat := if n ≤ b then 0 else if bet X 97 122 b = true then (if 6 < we X n b - b then 1 else wkF (pk5 (lts X b (we X n b - b))) 11 2) else if bet X 48 57 b = true then (if 3 < de X n b - b then 1 else 3) else if mrk (X b) = true then X b else 1
def cv (X : Nat → Nat) (n b : Nat) : Nat := if n ≤ b then 0 else if bet X 97 122 b = true then (if 6 < we X n b - b then 0 else pk5 (lts X b (we X n b - b))) else if bet X 48 57 b = true then (if 3 < de X n b - b then 0 else dgs X b (de X n b - b)) else 0
/-- where the tokens begin -/
def pz (X : Nat → Nat) (n : Nat) : Nat → Nat
  | 0 => sk X n 0
  | i + 1 => sk X n (te X n (pz X n i))
theorem te_gt {X : Nat → Nat} {n b : Nat} (h : b < n) : b < te X n b ∧ te X n b ≤ n := by
  unfold te we de
  rw [if_neg (by omega)]
  by_cases c : bet X 97 122 b = true
  · rw [if_pos c, rn_on h c]; exact ⟨rn_ge _ n (b + 1), rn_le (by omega)⟩
  · rw [if_neg c]
    by_cases d : bet X 48 57 b = true
    · rw [if_pos d, rn_on h d]; exact ⟨rn_ge _ n (b + 1), rn_le (by omega)⟩
    · rw [if_neg d]; omega
theorem pz_le (X : Nat → Nat) (n i : Nat) : pz X n i ≤ n := by
  cases i with
  | zero => exact rn_le (Nat.zero_le _)
  | succ i =>
    refine rn_le ?_
    by_cases h : n ≤ pz X n i
    · unfold te; rw [if_pos h]; exact Nat.le_refl _
    · exact (te_gt (by omega)).2
def TK (I : Nat → Nat → Int32) (X : Nat → Nat) (n s : Nat) : Prop := I 103 4 = nI s ∧ ∀ i, i < s → I 104 i = nI (ck X n (pz X n i)) ∧ I 105 i = nI (pz X n i) ∧ I 106 i = nI (cv X n (pz X n i))
section Lex
variable {σ : Sg} {I I' J I1 I2 I3 Ja : Nat → Nat → Int32} {L L' L1 L2 : Nat → Nat → Int64}
theorem s103 : (hpS (hk σ I L) 103).1 = 9 := rfl
theorem g103 (k : Nat) {ρ : Type} (f : Nat → Option ρ) : (gR 8 k 103 (hk σ I L)).bind f = f (RF σ 103 k) := rfl
/-- note -/
theorem tnote_ok {s : Nat} (a b c : Int32) (hs : I 103 4 = nI s) (h : s < 481) : ∃ I', mX8_note 103 a b c (hk σ I L) = some (hk σ I' L) ∧ I' 103 4 = nI (s + 1) ∧ I' 104 = updA (I 104) s a ∧ I' 105 = updA (I 105) s b ∧ I' 106 = updA (I 106) s c ∧ I' 107 = I 107 ∧ ∀ x, (x < 103 ∨ 107 < x) → I' x = I x := by
  refine ⟨rowUp (rowUp (rowUp (rowUp I 104 (updA (I 104) s a)) 105 (updA (I 105) s b)) 106 (updA (I 106) s c)) 103 (updA (I 103) 4 (nI (s + 1))), ?_, ?_, ?_, ?_, ?_, ?_, fun x hx => ?_⟩
  · unfold mX8_note
    rw [if_pos s103, g103, RF_103_0, gI_o 4 (n := 5) rfl, obind, hs, put_nI (n := 481) rfl (by omega) h, obind, setI_hk, g103, RF_103_1, gI_o 4 (n := 5) rfl, obind, rowUp_ne _ _ (by omega), hs, put_nI (n := 481) rfl (by omega) h, obind, setI_hk, g103, RF_103_2, gI_o 4 (n := 5) rfl, obind, rowUp_ne _ _ (by omega), rowUp_ne _ _ (by omega), hs, put_nI (n := 481) rfl (by omega) h, obind, setI_hk, gI_o 4 (n := 5) rfl, obind, rowUp_ne _ _ (by omega), rowUp_ne _ _ (by omega), rowUp_ne _ _ (by omega), hs, sI_ok s103, obind, setI_hk, nI_1]
    simp only [hpI_hk']
    rw [rowUp_ne (a := 104) (b := 105) _ _ (by omega), rowUp_ne (a := 105) (b := 106) _ _ (by omega), rowUp_ne (a := 104) (b := 106) _ _ (by omega), rowUp_ne (a := 106) (b := 103) _ _ (by omega), rowUp_ne (a := 105) (b := 103) _ _ (by omega), rowUp_ne (a := 104) (b := 103) _ _ (by omega)]
  · rw [rowUp_same, updA_same]
  · rw [rowUp_ne _ _ (by omega), rowUp_ne _ _ (by omega), rowUp_ne _ _ (by omega), rowUp_same]
  · rw [rowUp_ne _ _ (by omega), rowUp_ne _ _ (by omega), rowUp_same]
  · rw [rowUp_ne _ _ (by omega), rowUp_same]
  · rw [rowUp_ne _ _ (by omega), rowUp_ne _ _ (by omega), rowUp_ne _ _ (by omega), rowUp_ne _ _ (by omega)]
  · rw [rowUp_ne _ _ (by omega), rowUp_ne _ _ (by omega), rowUp_ne _ _ (by omega), rowUp_ne _ _ (by omega)]
/-- the tape, as the class reads it -/
def TC (I : Nat → Nat → Int32) (X : Nat → Nat) (n : Nat) : Prop := n ≤ 480 ∧ I 101 1 = nI n ∧ ∀ i, i < n → X i < 256 ∧ I 102 i = nI (X i)
theorem TC.fr {X : Nat → Nat} {n : Nat} (h : TC I X n) (f : I' 101 = I 101 ∧ I' 102 = I 102) : TC I' X n := by
  unfold TC
  rw [f.1, f.2]
  exact h
theorem tread_ok {X : Nat → Nat} {n i : Nat} (h : TC I X n) (hi : i < n) : mX7_read 101 (nI i) (hk σ I L) = some (nI (X i)) := by
  unfold mX7_read
  rw [if_pos s101, gI_o 1 (n := 2) rfl, obind, h.2.1, c_lt hi (by have := h.1; omega), g101, RF_101_0, at_r (n := 480) rfl (by have := h.1; omega) (by omega), obind, (h.2.2 i hi).2]
theorem runEnd_ok {X : Nat → Nat} {n lo hi p : Nat} (h : TC I X n) (hp : p ≤ n) (hl : lo < 256) (hh : hi < 256) : mX8_runEnd 101 (nI p) (nI lo) (nI hi) (hk σ I L) = some (nI (rn (bet X lo hi) n p)) := by
  have h1 := h.1
  unfold mX8_runEnd mX8_runEnd_l6
  refine lp_trajF (f := fun s : Int32 × Int32 => mX8_runEnd_l6f 101 (nI lo) (nI hi) (hk σ I L) s.1 s.2) p (rn (bet X lo hi) n p) (fun j => (nI j, nI j)) (nI (rn (bet X lo hi) n p)) (rn_ge _ n p) (fun j h2 h3 => ?_) ?_
  · have hj : j < n := Nat.lt_of_lt_of_le h3 (rn_le hp)
    have hb := bet_on (rn_in h2 h3)
    have hX := (h.2.2 j hj).1
    show mX8_runEnd_l6f 101 (nI lo) (nI hi) (hk σ I L) (nI j) (nI j) = _
    unfold mX8_runEnd_l6f
    rw [gI_o 1 (n := 2) rfl, obind, h.2.1, c_lt hj (by omega), tread_ok h hj, obind, c_nlt hb.1 (by omega), c_nlt hb.2 (by omega), nI_1]
  · show mX8_runEnd_l6f 101 (nI lo) (nI hi) (hk σ I L) (nI (rn (bet X lo hi) n p)) (nI (rn (bet X lo hi) n p)) = _
    have hle := rn_le (ok := bet X lo hi) hp
    unfold mX8_runEnd_l6f
    rw [gI_o 1 (n := 2) rfl, obind, h.2.1]
    by_cases e : rn (bet X lo hi) n p < n
    · have hb := bet_no (rn_end e hp)
      have hX := (h.2.2 _ e).1
      rw [c_lt e (by omega), tread_ok h e, obind]
      by_cases a : X (rn (bet X lo hi) n p) < lo
      · rw [c_lt a (by omega), xts]
      · rw [c_nlt (by omega) (by omega), c_lt (by omega) (by omega), xts]
    · rw [c_nlt (by omega) (by omega), xts]
end Lex
