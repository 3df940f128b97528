/-! TEXTS of the class: signs that come, the end; tokens, the class's split -/
/-- letters packed, five bits each -/
def pk5 : List Nat → Nat
  | [] => 0
  | c :: l => 32 * pk5 l + c
def wrd (l : List Nat) : Prop := l.length ≤ 6 ∧ ∀ c ∈ l, 1 ≤ c ∧ c ≤ 26
/-- the reserved words, the last letter first -/
def rsW : List (List Nat) := [[20, 3, 1, 6], [18, 5, 22, 5, 14], [20, 14, 21, 15, 3], [8, 20, 18, 15, 23], [5, 19, 15, 18, 1], [19, 4, 5, 5, 14], [1, 5, 12, 16], [19, 25, 1, 19], [5, 13, 1, 19], [20, 9, 13, 9, 12], [6, 15]]
def RS (I : Nat → Nat → Int32) : Prop := ∀ w, w < 11 → I 107 w = nI (pk5 (rsW.getD w []))
def SG (σ : Sg) : Prop := isLa (gla σ) ∧ isLa (glb σ) ∧ gla σ ≠ glb σ ∧ isSt (gsa σ) ∧ gsa σ < 282 ∧ isSt (gsb σ) ∧ gsb σ < 282 ∧ gsa σ ≠ gsb σ
section G1a
variable {σ : Sg} {I I' J I1 I2 I3 Ja : Nat → Nat → Int32} {L L' L1 L2 : Nat → Nat → Int64}
theorem s101 : (hpS (hk σ I L) 101).1 = 8 := rfl
theorem g101 (k : Nat) {ρ : Type} (f : Nat → Option ρ) : (gR 7 k 101 (hk σ I L)).bind f = f (RF σ 101 k) := rfl
theorem gTxt {ρ : Type} (f : Nat → Option ρ) : (gR 11 0 100 (hk σ I L)).bind f = f 101 := rfl
/-- a byte of four -/
theorem byte4 (v : Int32) {i : Nat} (hi : i < 4) : ∃ m, m < 256 ∧ (ushrI v ((24 : Int32) - (8 : Int32) * nI i)) &&& (255 : Int32) = nI m ∧ (v >>> (nI (24 - 8 * i) &&& 31)) &&& (255 : Int32) = nI m := by
  obtain ⟨n, hn, e⟩ := wb_of32 (v >>> (nI (24 - 8 * i) &&& 31))
  have m1 : (v >>> (nI (24 - 8 * i) &&& 31)) &&& (255 : Int32) = nI (n &&& 255) := by
    rw [e, show (255 : Int32) = nI 255 from rfl, nx_and]
  refine ⟨n &&& 255, Nat.lt_of_le_of_lt Nat.and_le_right (by omega), ?_, m1⟩
  rw [← m1, show (24 : Int32) = nI 24 from rfl, show (8 : Int32) = nI 8 from rfl, pk_mul, nI_sub (by omega)]
  apply b_ext; intro j hj
  rw [b_and, b_and, b_255]
  by_cases h8 : j < 8
  · rw [show bt (ushrI v (nI (24 - 8 * i))) j = bt v (24 - 8 * i + j) from b_ushr _ (by omega) v j, b_sshr _ (by omega) v hj, if_pos (by omega)]
  · rw [decide_eq_false h8, Bool.and_false, Bool.and_false]
theorem s282 : (hpS (hk σ I L) 282).1 = 3 := rfl
theorem gPar {ρ : Type} (f : Nat → Option ρ) : (gR 11 7 100 (hk σ I L)).bind f = f 282 := rfl
end G1a
def runE (ok : Nat → Bool) : Nat → Nat → Nat
  | 0, p => p
  | m + 1, p => if ok p = true then runE ok m (p + 1) else p
def rn (ok : Nat → Bool) (n p : Nat) : Nat := runE ok (n - p) p
theorem rn_on {ok : Nat → Bool} {n p : Nat} (h : p < n) (ho : ok p = true) : rn ok n p = rn ok n (p + 1) := by
  unfold rn
  rw [show n - p = (n - (p + 1)) + 1 by omega]
  show (if ok p = true then runE ok (n - (p + 1)) (p + 1) else p) = _
  rw [if_pos ho]
theorem rn_off {ok : Nat → Bool} {n p : Nat} (h : n ≤ p ∨ ok p = false) : rn ok n p = p := by
  unfold rn
  cases hm : n - p with
  | zero => rfl
  | succ m =>
    show (if ok p = true then runE ok m (p + 1) else p) = _
    rw [if_neg]
    rcases h with h | h
    · omega
    · rw [h]; exact Bool.false_ne_true
theorem runE_b (ok : Nat → Bool) : ∀ m p, p ≤ runE ok m p ∧ runE ok m p ≤ p + m ∧ (∀ i, p ≤ i → i < runE ok m p → ok i = true) ∧ (runE ok m p < p + m → ok (runE ok m p) = false) := by
  intro m
  induction m with
  | zero => intro p; exact ⟨Nat.le_refl _, Nat.le_refl _, fun i a b => by have : i < p := b; omega, fun a => by have : p < p := a; omega⟩
  | succ m ih =>
    intro p
    cases hp : ok p with
    | true =>
      have e : runE ok (m + 1) p = runE ok m (p + 1) := by show (if ok p = true then runE ok m (p + 1) else p) = _; rw [if_pos hp]
      rw [e]
      obtain ⟨a, b, c, d⟩ := ih (p + 1)
      refine ⟨by omega, by omega, fun i h1 h2 => ?_, fun h => d (by omega)⟩
      by_cases e : i = p
      · rw [e]; exact hp
      · exact c i (by omega) h2
    | false =>
      have e : runE ok (m + 1) p = p := by show (if ok p = true then runE ok m (p + 1) else p) = _; rw [if_neg (by rw [hp]; exact Bool.false_ne_true)]
      rw [e]
      exact ⟨Nat.le_refl _, by omega, fun i a b => by omega, fun _ => hp⟩
theorem rn_ge (ok : Nat → Bool) (n p : Nat) : p ≤ rn ok n p := (runE_b ok _ _).1
theorem rn_le {ok : Nat → Bool} {n p : Nat} (h : p ≤ n) : rn ok n p ≤ n := by have := (runE_b ok (n - p) p).2.1; unfold rn; omega
theorem rn_in {ok : Nat → Bool} {n p i : Nat} (h1 : p ≤ i) (h2 : i < rn ok n p) : ok i = true := (runE_b ok _ _).2.2.1 i h1 h2
theorem rn_end {ok : Nat → Bool} {n p : Nat} (h : rn ok n p < n) (hp : p ≤ n) : ok (rn ok n p) = false := (runE_b ok (n - p) p).2.2.2 (by unfold rn at h; omega)
def bet (X : Nat → Nat) (lo hi i : Nat) : Bool := decide (lo ≤ X i) && decide (X i ≤ hi)
theorem bet_on {X : Nat → Nat} {lo hi i : Nat} (h : bet X lo hi i = true) : lo ≤ X i ∧ X i ≤ hi := by
  unfold bet at h
  rw [Bool.and_eq_true, decide_eq_true_eq, decide_eq_true_eq] at h
  exact h
theorem bet_no {X : Nat → Nat} {lo hi i : Nat} (h : bet X lo hi i = false) : X i < lo ∨ hi < X i := by
  have : ¬ (lo ≤ X i ∧ X i ≤ hi) := fun q => by
    have : bet X lo hi i = true := by unfold bet; rw [decide_eq_true q.1, decide_eq_true q.2]; rfl
    rw [h] at this; cases this
  omega
def blk (X : Nat → Nat) (i : Nat) : Bool := decide (X i = 32) || decide (X i = 10)
def mrk (c : Nat) : Bool := decide (c = 33) || decide (c = 38) || decide (c = 124) || decide (c = 40) || decide (c = 41) || decide (c = 44) || decide (c = 59)
/-- letters from a place on, the last first -/
def lts (X : Nat → Nat) (b : Nat) : Nat → List Nat
  | 0 => []
  | m + 1 => (X (b + m) - 96) :: lts X b m
def dgs (X : Nat → Nat) (b : Nat) : Nat → Nat
  | 0 => 0
  | m + 1 => dgs X b m * 10 + (X (b + m) - 48)
def sk (X : Nat → Nat) (n p : Nat) : Nat := rn (blk X) n p
def we (X : Nat → Nat) (n b : Nat) : Nat := rn (bet X 97 122) n b
def de (X : Nat → Nat) (n b : Nat) : Nat := rn (bet X 48 57) n b
/-- where the token ends that begins here -/
def te (X : Nat → Nat) (n b : Nat) : Nat := if n ≤ b then n else if bet X 97 122 b = true then we X n b else if bet X 48 57 b = true then de X n b else b + 1
def wkF (v : Nat) : Nat → Nat → Nat
  | 0, k => k
  | w + 1, k => if pk5 (rsW.getD w []) = v then 256 + w else wkF v w k
/-- kind and value, as the class has them -/
def ck (X : Nat → Nat) (n b : Nat) : Nat := if n ≤ b then 0 else if bet X 97 122 b = true then (if 6 < we X n b - b then 1 else wkF (pk5 (lts X b (we X n b - b))) 11 2) else if bet X 48 57 b = true then (if 3 < de X n b - b then 1 else 3) else if mrk (X b) = true then X b else 1
def cv (X : Nat → Nat) (n b : Nat) : Nat := if n ≤ b then 0 else if bet X 97 122 b = true then (if 6 < we X n b - b then 0 else pk5 (lts X b (we X n b - b))) else if bet X 48 57 b = true then (if 3 < de X n b - b then 0 else dgs X b (de X n b - b)) else 0
/-- where the tokens begin -/
def pz (X : Nat → Nat) (n : Nat) : Nat → Nat
  | 0 => sk X n 0
  | i + 1 => sk X n (te X n (pz X n i))
theorem te_gt {X : Nat → Nat} {n b : Nat} (h : b < n) : b < te X n b ∧ te X n b ≤ n := by
  unfold te we de
  rw [if_neg (by omega)]
  by_cases c : bet X 97 122 b = true
  · rw [if_pos c, rn_on h c]; exact ⟨rn_ge _ n (b + 1), rn_le (by omega)⟩
  · rw [if_neg c]
    by_cases d : bet X 48 57 b = true
    · rw [if_pos d, rn_on h d]; exact ⟨rn_ge _ n (b + 1), rn_le (by omega)⟩
    · rw [if_neg d]; omega
theorem pz_le (X : Nat → Nat) (n i : Nat) : pz X n i ≤ n := by
  cases i with
  | zero => exact rn_le (Nat.zero_le _)
  | succ i =>
    refine rn_le ?_
    by_cases h : n ≤ pz X n i
    · unfold te; rw [if_pos h]; exact Nat.le_refl _
    · exact (te_gt (by omega)).2
def TK (I : Nat → Nat → Int32) (X : Nat → Nat) (n s : Nat) : Prop := I 103 4 = nI s ∧ ∀ i, i < s → I 104 i = nI (ck X n (pz X n i)) ∧ I 105 i = nI (pz X n i) ∧ I 106 i = nI (cv X n (pz X n i))
section Lex
variable {σ : Sg} {I I' J I1 I2 I3 Ja : Nat → Nat → Int32} {L L' L1 L2 : Nat → Nat → Int64}
theorem s103 : (hpS (hk σ I L) 103).1 = 9 := rfl
theorem g103 (k : Nat) {ρ : Type} (f : Nat → Option ρ) : (gR 8 k 103 (hk σ I L)).bind f = f (RF σ 103 k) := rfl
/-- note -/
theorem tnote_ok {s : Nat} (a b c : Int32) (hs : I 103 4 = nI s) (h : s < 481) : ∃ I', mX8_note 103 a b c (hk σ I L) = some (hk σ I' L) ∧ I' 103 4 = nI (s + 1) ∧ I' 104 = updA (I 104) s a ∧ I' 105 = updA (I 105) s b ∧ I' 106 = updA (I 106) s c ∧ I' 107 = I 107 ∧ ∀ x, (x < 103 ∨ 107 < x) → I' x = I x := by
  refine ⟨rowUp (rowUp (rowUp (rowUp I 104 (updA (I 104) s a)) 105 (updA (I 105) s b)) 106 (updA (I 106) s c)) 103 (updA (I 103) 4 (nI (s + 1))), ?_, ?_, ?_, ?_, ?_, ?_, fun x hx => ?_⟩
  · unfold mX8_note
    rw [if_pos s103, g103, RF_103_0, gI_o 4 (n := 5) rfl, obind, hs, put_nI (n := 481) rfl (by omega) h, obind, setI_hk, g103, RF_103_1, gI_o 4 (n := 5) rfl, obind, rowUp_ne _ _ (by omega), hs, put_nI (n := 481) rfl (by omega) h, obind, setI_hk, g103, RF_103_2, gI_o 4 (n := 5) rfl, obind, rowUp_ne _ _ (by omega), rowUp_ne _ _ (by omega), hs, put_nI (n := 481) rfl (by omega) h, obind, setI_hk, gI_o 4 (n := 5) rfl, obind, rowUp_ne _ _ (by omega), rowUp_ne _ _ (by omega), rowUp_ne _ _ (by omega), hs, sI_ok s103, obind, setI_hk, nI_1]
    simp only [hpI_hk']
    rw [rowUp_ne (a := 104) (b := 105) _ _ (by omega), rowUp_ne (a := 105) (b := 106) _ _ (by omega), rowUp_ne (a := 104) (b := 106) _ _ (by omega), rowUp_ne (a := 106) (b := 103) _ _ (by omega), rowUp_ne (a := 105) (b := 103) _ _ (by omega), rowUp_ne (a := 104) (b := 103) _ _ (by omega)]
  · rw [rowUp_same, updA_same]
  · rw [rowUp_ne _ _ (by omega), rowUp_ne _ _ (by omega), rowUp_ne _ _ (by omega), rowUp_same]
  · rw [rowUp_ne _ _ (by omega), rowUp_ne _ _ (by omega), rowUp_same]
  · rw [rowUp_ne _ _ (by omega), rowUp_same]
  · rw [rowUp_ne _ _ (by omega), rowUp_ne _ _ (by omega), rowUp_ne _ _ (by omega), rowUp_ne _ _ (by omega)]
  · rw [rowUp_ne _ _ (by omega), rowUp_ne _ _ (by omega), rowUp_ne _ _ (by omega), rowUp_ne _ _ (by omega)]
/-- the tape, as the class reads it -/
def TC (I : Nat → Nat → Int32) (X : Nat → Nat) (n : Nat) : Prop := n ≤ 480 ∧ I 101 1 = nI n ∧ ∀ i, i < n → X i < 256 ∧ I 102 i = nI (X i)
theorem TC.fr {X : Nat → Nat} {n : Nat} (h : TC I X n) (f : I' 101 = I 101 ∧ I' 102 = I 102) : TC I' X n := by
  unfold TC
  rw [f.1, f.2]
  exact h
theorem tread_ok {X : Nat → Nat} {n i : Nat} (h : TC I X n) (hi : i < n) : mX7_read 101 (nI i) (hk σ I L) = some (nI (X i)) := by
  unfold mX7_read
  rw [if_pos s101, gI_o 1 (n := 2) rfl, obind, h.2.1, c_lt hi (by have := h.1; omega), g101, RF_101_0, at_r (n := 480) rfl (by have := h.1; omega) (by omega), obind, (h.2.2 i hi).2]
theorem runEnd_ok {X : Nat → Nat} {n lo hi p : Nat} (h : TC I X n) (hp : p ≤ n) (hl : lo < 256) (hh : hi < 256) : mX8_runEnd 101 (nI p) (nI lo) (nI hi) (hk σ I L) = some (nI (rn (bet X lo hi) n p)) := by
  have h1 := h.1
  unfold mX8_runEnd mX8_runEnd_l6
  refine lp_trajF (f := fun s : Int32 × Int32 => mX8_runEnd_l6f 101 (nI lo) (nI hi) (hk σ I L) s.1 s.2) p (rn (bet X lo hi) n p) (fun j => (nI j, nI j)) (nI (rn (bet X lo hi) n p)) (rn_ge _ n p) (fun j h2 h3 => ?_) ?_
  · have hj : j < n := Nat.lt_of_lt_of_le h3 (rn_le hp)
    have hb := bet_on (rn_in h2 h3)
    have hX := (h.2.2 j hj).1
    show mX8_runEnd_l6f 101 (nI lo) (nI hi) (hk σ I L) (nI j) (nI j) = _
    unfold mX8_runEnd_l6f
    rw [gI_o 1 (n := 2) rfl, obind, h.2.1, c_lt hj (by omega), tread_ok h hj, obind, c_nlt hb.1 (by omega), c_nlt hb.2 (by omega), nI_1]
  · show mX8_runEnd_l6f 101 (nI lo) (nI hi) (hk σ I L) (nI (rn (bet X lo hi) n p)) (nI (rn (bet X lo hi) n p)) = _
    have hle := rn_le (ok := bet X lo hi) hp
    unfold mX8_runEnd_l6f
    rw [gI_o 1 (n := 2) rfl, obind, h.2.1]
    by_cases e : rn (bet X lo hi) n p < n
    · have hb := bet_no (rn_end e hp)
      have hX := (h.2.2 _ e).1
      rw [c_lt e (by omega), tread_ok h e, obind]
      by_cases a : X (rn (bet X lo hi) n p) < lo
      · rw [c_lt a (by omega), xts]
      · rw [c_nlt (by omega) (by omega), c_lt (by omega) (by omega), xts]
    · rw [c_nlt (by omega) (by omega), xts]
end Lex
theorem nI_sh5 (a : Nat) : nI a <<< ((5 : Int32) &&& 31) = nI (32 * a) := by
  apply b_ext; intro i hi
  rw [show ((5 : Int32) &&& 31) = (nI 5 &&& 31) from rfl, b_shl 5 (by omega) _ hi, bt_n hi]
  rw [show 32 * a = a * 2 ^ 5 by omega, Nat.testBit_mul_two_pow]
  by_cases h : 5 ≤ i
  · rw [bt_n (by omega)]
  · simp [h]
theorem or5 (a : Nat) {b : Nat} (h : b < 32) : 32 * a ||| b = 32 * a + b := (Nat.two_pow_add_eq_or_of_lt (i := 5) h a).symm
theorem lts_len (X : Nat → Nat) (b m : Nat) : (lts X b m).length = m := by
  induction m with
  | zero => rfl
  | succ m ih => show (lts X b m).length + 1 = m + 1; rw [ih]
theorem lts_in {X : Nat → Nat} {b m : Nat} (h : ∀ i, b ≤ i → i < b + m → bet X 97 122 i = true) : ∀ c ∈ lts X b m, 1 ≤ c ∧ c ≤ 26 := by
  induction m with
  | zero => intro c hc; cases hc
  | succ m ih =>
    intro c hc
    rcases List.mem_cons.mp hc with rfl | hc
    · have := bet_on (h (b + m) (by omega) (by omega)); omega
    · exact ih (fun i h1 h2 => h i h1 (by omega)) c hc
theorem pk5_lt : ∀ (l : List Nat) (k : Nat), l.length ≤ k → (∀ c ∈ l, c < 32) → pk5 l < 32 ^ k
  | [], k, _, _ => Nat.pow_pos (by omega)
  | c :: l, 0, h, _ => by simp at h
  | c :: l, k + 1, h, hc => by
    have := pk5_lt l k (by simpa using h) (fun d hd => hc d (List.mem_cons_of_mem _ hd))
    have h2 := hc c (List.mem_cons_self ..)
    show 32 * pk5 l + c < 32 ^ (k + 1)
    rw [Nat.pow_succ]
    omega
theorem wrd_lt {l : List Nat} (h : wrd l) : pk5 l < 1073741824 := pk5_lt l 6 h.1 (fun c hc => by have := h.2 c hc; omega)
theorem rs_wrd : ∀ w, w < 11 → wrd (rsW.getD w []) := by unfold wrd; decide
section Split
variable {σ : Sg} {I I' J I1 I2 I3 Ja : Nat → Nat → Int32} {L L' L1 L2 : Nat → Nat → Int64}
/-- a frame of the tokens' rows -/
def TF (I I' : Nat → Nat → Int32) : Prop := I' 107 = I 107 ∧ ∀ x, (x < 103 ∨ 107 < x) → I' x = I x
theorem TF.rf : TF I I := ⟨rfl, fun _ _ => rfl⟩
theorem TF.tr (h : TF I I1) (g : TF I1 I2) : TF I I2 := ⟨g.1.trans h.1, fun x hx => (g.2 x hx).trans (h.2 x hx)⟩
theorem TC.tf {X : Nat → Nat} {n : Nat} (h : TC I X n) (f : TF I I') : TC I' X n := h.fr ⟨f.2 101 (by omega), f.2 102 (by omega)⟩
theorem RS.tf (h : RS I) (f : TF I I') : RS I' := fun w hw => by rw [f.1]; exact h w hw
/-- one token more -/
theorem TK.more {X : Nat → Nat} {n s b : Nat} (h : TK I X n s) (hs : s < 481) (hb : pz X n s = b) : ∃ I', mX8_note 103 (nI (ck X n b)) (nI b) (nI (cv X n b)) (hk σ I L) = some (hk σ I' L) ∧ TK I' X n (s + 1) ∧ TF I I' := by
  obtain ⟨I', e, h1, h2, h3, h4, h5, h6⟩ := tnote_ok (σ := σ) (I := I) (L := L) (nI (ck X n b)) (nI b) (nI (cv X n b)) h.1 hs
  refine ⟨I', e, ⟨h1, fun i hi => ?_⟩, h5, h6⟩
  rw [h2, h3, h4, updA_at, updA_at, updA_at]
  by_cases c : i = s
  · subst c; rw [if_pos rfl, if_pos rfl, if_pos rfl, hb]; exact ⟨rfl, rfl, rfl⟩
  · rw [if_neg c, if_neg c, if_neg c]; exact h.2 i (by omega)
theorem nWord_ok {X : Nat → Nat} {n s b : Nat} (h : TK I X n s) (hs : s < 481) (hb : pz X n s = b) (hT : TC I X n) (hR : RS I) (hn : b < n) (hl : bet X 97 122 b = true) : ∃ I', mX8_noteWord 103 101 (nI b) (nI (we X n b)) (hk σ I L) = some (hk σ I' L) ∧ TK I' X n (s + 1) ∧ TF I I' := by
  have h480 := hT.1
  have hge : b ≤ we X n b := rn_ge _ n b
  have hle : we X n b ≤ n := rn_le (by omega)
  obtain ⟨I', e, r⟩ := TK.more (σ := σ) (L := L) h hs hb
  refine ⟨I', ?_, r⟩
  unfold mX8_noteWord
  rw [if_pos s103, nI_sub hge]
  by_cases c : 6 < we X n b - b
  · have e1 : ck X n b = 1 := by unfold ck; rw [if_neg (by omega), if_pos hl, if_pos c]
    have e2 : cv X n b = 0 := by unfold cv; rw [if_neg (by omega), if_pos hl, if_pos c]
    rw [e1, e2] at e
    have e : mX8_note 103 (1 : Int32) (nI b) (0 : Int32) (hk σ I L) = some (hk σ I' L) := e
    rw [if_pos (show (6 : Int32) < nI (we X n b - b) from nI_lt (a := 6) c (by omega)), e, obind]
  · have e1 : ck X n b = wkF (pk5 (lts X b (we X n b - b))) 11 2 := by unfold ck; rw [if_neg (by omega), if_pos hl, if_neg c]
    have e2 : cv X n b = pk5 (lts X b (we X n b - b)) := by unfold cv; rw [if_neg (by omega), if_pos hl, if_neg c]
    rw [e1, e2] at e
    rw [if_neg (show ¬ (6 : Int32) < nI (we X n b - b) from nI_nlt (a := 6) (b := we X n b - b) (by omega) (by omega))]
    have hin : ∀ i, b ≤ i → i < we X n b → bet X 97 122 i = true := fun i h1 h2 => rn_in h1 h2
    have hw : ∀ m, m ≤ we X n b - b → wrd (lts X b m) := fun m hm => ⟨by rw [lts_len]; omega, lts_in (fun i h1 h2 => hin i h1 (by omega))⟩
    have l53 : mX8_noteWord_l53 103 (nI b) (nI (pk5 (lts X b (we X n b - b)))) (2 : Int32) (0 : Int32) (hk σ I L) = some (hk σ I' L) := by
      unfold mX8_noteWord_l53
      refine lp_traj (f := fun s : Int32 × Int32 => mX8_noteWord_l53f 103 (nI b) (nI (pk5 (lts X b (we X n b - b)))) (hk σ I L) s.1 s.2) 11 (fun w => (nI (wkF (pk5 (lts X b (we X n b - b))) w 2), nI w)) (hk σ I' L) (fun w hw' => ?_) ?_
      · show mX8_noteWord_l53f 103 (nI b) (nI (pk5 (lts X b (we X n b - b)))) (hk σ I L) (nI (wkF (pk5 (lts X b (we X n b - b))) w 2)) (nI w) = _
        unfold mX8_noteWord_l53f
        have b1 := wrd_lt (rs_wrd w hw')
        have b2 := wrd_lt (hw _ (Nat.le_refl _))
        rw [show (11 : Int32) = nI 11 from rfl, c_lt hw' (by omega), g103, RF_103_3, at_r (n := 11) rfl hw' (by omega), obind, hR w hw', c_eqd (by omega) (by omega)]
        unfold mX8_noteWord_b82
        rw [nI_1]
        show _ = some (Sum.inl (nI (if pk5 (rsW.getD w []) = pk5 (lts X b (we X n b - b)) then 256 + w else wkF (pk5 (lts X b (we X n b - b))) w 2), nI (w + 1)))
        by_cases q : pk5 (rsW.getD w []) = pk5 (lts X b (we X n b - b))
        · rw [if_pos q, if_pos q, show (256 : Int32) = nI 256 from rfl, nI_add]
        · rw [if_neg q, if_neg q]
      · show mX8_noteWord_l53f 103 (nI b) (nI (pk5 (lts X b (we X n b - b)))) (hk σ I L) (nI (wkF (pk5 (lts X b (we X n b - b))) 11 2)) (nI 11) = _
        unfold mX8_noteWord_l53f
        rw [if_neg (by decide), e, obind, xts]
    unfold mX8_noteWord_l22
    obtain ⟨o, q1, q2⟩ := lp_inv (f := fun s : Int32 × Int32 => mX8_noteWord_l22f 103 101 (nI b) (nI (we X n b)) (hk σ I L) s.1 s.2) (we X n b - b) (fun m st => st = (nI (pk5 (lts X b m)), nI (b + m))) (fun o => o = hk σ I' L)
      (fun m st hm hQ => by
        subst hQ
        refine ⟨_, ?_, rfl⟩
        have hb := bet_on (hin (b + m) (by omega) (by omega))
        show mX8_noteWord_l22f 103 101 (nI b) (nI (we X n b)) (hk σ I L) (nI (pk5 (lts X b m))) (nI (b + m)) = _
        unfold mX8_noteWord_l22f mX8_withLetter
        rw [c_lt (by omega) (by omega), tread_ok hT (by omega), obind, obind, nI_sh5, show (97 : Int32) = nI 97 from rfl, nI_sub hb.1, nI_1, nI_1, nx_or, or5 _ (by omega)]
        show some (Sum.inl (nI (32 * pk5 (lts X b m) + (X (b + m) - 97 + 1)), nI (b + m + 1))) = some (Sum.inl (nI (32 * pk5 (lts X b m) + (X (b + m) - 96)), nI (b + (m + 1))))
        rw [show X (b + m) - 97 + 1 = X (b + m) - 96 by omega, Nat.add_assoc])
      (fun st hQ => by
        subst hQ
        refine ⟨_, ?_, rfl⟩
        show mX8_noteWord_l22f 103 101 (nI b) (nI (we X n b)) (hk σ I L) (nI (pk5 (lts X b (we X n b - b)))) (nI (b + (we X n b - b))) = _
        unfold mX8_noteWord_l22f
        rw [c_nlt (by omega) (by omega), l53, xts]) (s := ((0 : Int32), nI b)) rfl
    rw [q2] at q1
    exact q1
theorem nNum_ok {X : Nat → Nat} {n s b : Nat} (h : TK I X n s) (hs : s < 481) (hb : pz X n s = b) (hT : TC I X n) (hn : b < n) (hl : bet X 97 122 b = false) (hd : bet X 48 57 b = true) : ∃ I', mX8_noteNumber 103 101 (nI b) (nI (de X n b)) (hk σ I L) = some (hk σ I' L) ∧ TK I' X n (s + 1) ∧ TF I I' := by
  have h480 := hT.1
  have hge : b ≤ de X n b := rn_ge _ n b
  have hle : de X n b ≤ n := rn_le (by omega)
  obtain ⟨I', e, r⟩ := TK.more (σ := σ) (L := L) h hs hb
  refine ⟨I', ?_, r⟩
  unfold mX8_noteNumber
  rw [if_pos s103, nI_sub hge]
  have hl : ¬ bet X 97 122 b = true := by rw [hl]; exact Bool.false_ne_true
  by_cases c : 3 < de X n b - b
  · have e1 : ck X n b = 1 := by unfold ck; rw [if_neg (by omega), if_neg hl, if_pos hd, if_pos c]
    have e2 : cv X n b = 0 := by unfold cv; rw [if_neg (by omega), if_neg hl, if_pos hd, if_pos c]
    rw [e1, e2] at e
    have e : mX8_note 103 (1 : Int32) (nI b) (0 : Int32) (hk σ I L) = some (hk σ I' L) := e
    rw [if_pos (show (3 : Int32) < nI (de X n b - b) from nI_lt (a := 3) c (by omega)), e, obind]
  · have e1 : ck X n b = 3 := by unfold ck; rw [if_neg (by omega), if_neg hl, if_pos hd, if_neg c]
    have e2 : cv X n b = dgs X b (de X n b - b) := by unfold cv; rw [if_neg (by omega), if_neg hl, if_pos hd, if_neg c]
    rw [e1, e2] at e
    have e : mX8_note 103 (3 : Int32) (nI b) (nI (dgs X b (de X n b - b))) (hk σ I L) = some (hk σ I' L) := e
    rw [if_neg (show ¬ (3 : Int32) < nI (de X n b - b) from nI_nlt (a := 3) (b := de X n b - b) (by omega) (by omega))]
    have hin : ∀ i, b ≤ i → i < de X n b → bet X 48 57 i = true := fun i h1 h2 => rn_in h1 h2
    unfold mX8_noteNumber_l21
    obtain ⟨o, q1, q2⟩ := lp_inv (f := fun s : Int32 × Int32 => mX8_noteNumber_l21f 103 101 (nI b) (nI (de X n b)) (hk σ I L) s.1 s.2) (de X n b - b) (fun m st => st = (nI (dgs X b m), nI (b + m))) (fun o => o = hk σ I' L)
      (fun m st hm hQ => by
        subst hQ
        refine ⟨_, ?_, rfl⟩
        have hb := bet_on (hin (b + m) (by omega) (by omega))
        show mX8_noteNumber_l21f 103 101 (nI b) (nI (de X n b)) (hk σ I L) (nI (dgs X b m)) (nI (b + m)) = _
        unfold mX8_noteNumber_l21f
        rw [c_lt (by omega) (by omega), tread_ok hT (by omega), obind, show (10 : Int32) = nI 10 from rfl, pk_mul, nI_add, show (48 : Int32) = nI 48 from rfl, nI_sub (by omega), nI_1]
        show some (Sum.inl (nI (dgs X b m * 10 + X (b + m) - 48), nI (b + m + 1))) = some (Sum.inl (nI (dgs X b m * 10 + (X (b + m) - 48)), nI (b + (m + 1))))
        rw [show dgs X b m * 10 + X (b + m) - 48 = dgs X b m * 10 + (X (b + m) - 48) by omega, Nat.add_assoc])
      (fun st hQ => by
        subst hQ
        refine ⟨_, ?_, rfl⟩
        show mX8_noteNumber_l21f 103 101 (nI b) (nI (de X n b)) (hk σ I L) (nI (dgs X b (de X n b - b))) (nI (b + (de X n b - b))) = _
        unfold mX8_noteNumber_l21f
        rw [c_nlt (by omega) (by omega), e, obind, xts]) (s := ((0 : Int32), nI b)) rfl
    rw [q2] at q1
    exact q1
theorem st11 {h : Hp} : ST h 11 [33, 38, 124, 40, 41, 44, 59] := ST.lit (i := 1) _ (by decide +kernel)
theorem mark_ok {h : Hp} {c : Nat} (hc : c < 256) : ∃ v, mJ0_indexOf_0f7a4 11 (i2cV (nI c)) h = some v ∧ (v < 0 ↔ mrk c = false) := by
  have ld : ∀ i, i < 7 → bLd 41 (nI i) h = some (zByte 1 i) := fun i hi => by
    unfold bLd
    rw [if_pos ⟨by unfold bOk; rw [decide_eq_true (show 40 ≤ 41 ∧ 41 < 64 by omega)]; rfl, by rw [show bN 41 h = 7 from by unfold bN; rw [if_pos (by omega)]; decide, inB_nI (by omega)]; exact decide_eq_true hi⟩, ixN_nI (by omega)]
    unfold bAt
    rw [if_pos (by omega)]
  have lp7 : mJ1_indexOfChar_4cfef_l7 41 (nI 7) (i2cV (nI c)).toInt8.toInt32 (nI 0) h = some (match fstB (fun i => decide (zByte 1 i = (i2cV (nI c)).toInt8.toInt32)) 7 with | some i => nI i | none => -1) := by
    unfold mJ1_indexOfChar_4cfef_l7
    refine lp_first (f := fun s : Int32 => mJ1_indexOfChar_4cfef_l7f 41 (nI 7) (i2cV (nI c)).toInt8.toInt32 h s) 7 (fun i => nI i) (fun i => decide (zByte 1 i = (i2cV (nI c)).toInt8.toInt32)) (fun i => nI i) (-1) (fun i hi hp => ?_) (fun i hi hp => ?_) ?_
    · show mJ1_indexOfChar_4cfef_l7f 41 (nI 7) (i2cV (nI c)).toInt8.toInt32 h (nI i) = _
      unfold mJ1_indexOfChar_4cfef_l7f
      rw [c_lt hi (by omega), ld i hi, obind, if_neg (of_decide_eq_false hp), nI_1]
    · show mJ1_indexOfChar_4cfef_l7f 41 (nI 7) (i2cV (nI c)).toInt8.toInt32 h (nI i) = _
      unfold mJ1_indexOfChar_4cfef_l7f
      rw [c_lt hi (by omega), ld i hi, obind, if_pos (of_decide_eq_true hp), xts]
    · show mJ1_indexOfChar_4cfef_l7f 41 (nI 7) (i2cV (nI c)).toInt8.toInt32 h (nI 7) = _
      unfold mJ1_indexOfChar_4cfef_l7f
      rw [if_neg (by decide), xts]
  have fin : ∀ c, c < 256 → (((match fstB (fun i => decide (zByte 1 i = (i2cV (nI c)).toInt8.toInt32)) 7 with | some i => nI i | none => -1) : Int32) < 0 ↔ mrk c = false) ∧ mJ1_canEncode_9a6ad (i2cV (nI c)) = some 1 := by decide +kernel
  refine ⟨_, ?_, (fin c hc).1⟩
  have l7 : mJ0_length_8abf5 11 h = some (nI 7) := (st11 (h := h)).len
  have la : mJ0_isLatin1_aae02 11 h = some 1 := by
    unfold mJ0_isLatin1_aae02
    rw [if_pos (by omega), if_neg (by decide), show sC 11 h = some 0 from by unfold sC; rw [if_pos (by omega)], obind, if_pos rfl]
  have lb : bLn 41 h = some (nI 7) := bLn_ok (by unfold bOk; rw [decide_eq_true (show 40 ≤ 41 ∧ 41 < 64 by omega)]; rfl) (by unfold bN; rw [if_pos (by omega)]; decide)
  unfold mJ0_indexOf_0f7a4 mJ0_indexOf_7cf53
  rw [if_pos (by omega), if_pos (by omega), la, obind, if_neg (by decide), show sV 11 h = some 41 from by unfold sV; rw [if_pos (by omega)], obind, l7, obind]
  unfold mJ1_indexOf_4cfef mJ1_indexOfChar_4cfef
  rw [(fin c hc).2, obind, if_neg (by decide), lb, obind, show mmax (0 : Int32) 0 = nI 0 from by decide, show mmin (nI 7) (nI 7) = nI 7 from by decide, if_pos (by decide), lp7, obind, obind, obind]
theorem blk_no {X : Nat → Nat} {i : Nat} (h : blk X i = false) : X i ≠ 32 ∧ X i ≠ 10 := by
  unfold blk at h
  rw [Bool.or_eq_false_iff, decide_eq_false_iff_not, decide_eq_false_iff_not] at h
  exact h
/-- cutOne -/
theorem cut_ok {X : Nat → Nat} {n s b : Nat} (h : TK I X n s) (hs : s < 481) (hb : pz X n s = b) (hT : TC I X n) (hR : RS I) (hn : b < n) : ∃ I', mX8_cutOne 103 101 (nI b) (nI (X b)) (hk σ I L) = some (nI (te X n b), hk σ I' L) ∧ TK I' X n (s + 1) ∧ TF I I' := by
  have h480 := hT.1
  have hX := (hT.2.2 b hn).1
  cases hl : bet X 97 122 b with
  | true =>
    obtain ⟨I', e, r⟩ := nWord_ok (σ := σ) (L := L) h hs hb hT hR hn hl
    refine ⟨I', ?_, r⟩
    have hb := bet_on hl
    have et : te X n b = we X n b := by unfold te; rw [if_neg (by omega), if_pos hl]
    have er : mX8_runEnd 101 (nI b) (97 : Int32) (122 : Int32) (hk σ I L) = some (nI (we X n b)) := runEnd_ok (lo := 97) (hi := 122) hT (by omega) (by omega) (by omega)
    unfold mX8_cutOne
    rw [if_pos s103, if_neg (show ¬ nI (X b) < (97 : Int32) from nI_nlt (a := X b) (b := 97) hb.1 (by omega)), if_neg (show ¬ (122 : Int32) < nI (X b) from nI_nlt (a := 122) (b := X b) hb.2 (by omega)), er, obind, e, obind, et]
  | false =>
    have hlo := bet_no hl
    have hl' : ¬ bet X 97 122 b = true := by rw [hl]; exact Bool.false_ne_true
    have b34 : ∃ I', mX8_cutOne_b34 103 101 (nI b) (nI (X b)) (hk σ I L) = some (nI (te X n b), hk σ I' L) ∧ TK I' X n (s + 1) ∧ TF I I' := by
      cases hd : bet X 48 57 b with
      | true =>
        obtain ⟨I', e, r⟩ := nNum_ok (σ := σ) (L := L) h hs hb hT hn hl hd
        refine ⟨I', ?_, r⟩
        have hb := bet_on hd
        have et : te X n b = de X n b := by unfold te; rw [if_neg (by omega), if_neg hl', if_pos hd]
        have er : mX8_runEnd 101 (nI b) (48 : Int32) (57 : Int32) (hk σ I L) = some (nI (de X n b)) := runEnd_ok (lo := 48) (hi := 57) hT (by omega) (by omega) (by omega)
        unfold mX8_cutOne_b34
        rw [if_neg (show ¬ nI (X b) < (48 : Int32) from nI_nlt (a := X b) (b := 48) hb.1 (by omega)), if_neg (show ¬ (57 : Int32) < nI (X b) from nI_nlt (a := 57) (b := X b) hb.2 (by omega)), er, obind, e, obind, et]
      | false =>
        have hdo := bet_no hd
        have hd' : ¬ bet X 48 57 b = true := by rw [hd]; exact Bool.false_ne_true
        have et : te X n b = b + 1 := by unfold te; rw [if_neg (by omega), if_neg hl', if_neg hd']
        have e2 : cv X n b = 0 := by unfold cv; rw [if_neg (by omega), if_neg hl', if_neg hd']
        obtain ⟨I', e, r⟩ := TK.more (σ := σ) (L := L) h hs hb
        refine ⟨I', ?_, r⟩
        rw [e2] at e
        have e : mX8_note 103 (nI (ck X n b)) (nI b) (0 : Int32) (hk σ I L) = some (hk σ I' L) := e
        have b68 : mX8_cutOne_b68 103 (nI b) (nI (X b)) (hk σ I L) = some (nI (te X n b), hk σ I' L) := by
          obtain ⟨v, ev, hv⟩ := mark_ok (h := hk σ I L) hX
          unfold mX8_cutOne_b68 mX8_cutOne_b83 mX8_cutOne_b96
          rw [ev, obind]
          cases hm : mrk (X b) with
          | false =>
            have e1 : ck X n b = 1 := by unfold ck; rw [if_neg (by omega), if_neg hl', if_neg hd', if_neg (by rw [hm]; exact Bool.false_ne_true)]
            rw [e1] at e
            have e : mX8_note 103 (1 : Int32) (nI b) (0 : Int32) (hk σ I L) = some (hk σ I' L) := e
            rw [if_pos (hv.mpr hm), if_pos rfl, e, obind, nI_1, et]
          | true =>
            have e1 : ck X n b = X b := by unfold ck; rw [if_neg (by omega), if_neg hl', if_neg hd', if_pos hm]
            rw [e1] at e
            rw [if_neg (fun q => by rw [hv.mp q] at hm; cases hm), if_neg (by decide), e, obind, nI_1, et]
        unfold mX8_cutOne_b34
        rcases hdo with q | q
        · rw [if_pos (show nI (X b) < (48 : Int32) from nI_lt (b := 48) q (by omega)), b68]
        · rw [if_neg (show ¬ nI (X b) < (48 : Int32) from nI_nlt (a := X b) (b := 48) (by omega) (by omega)), if_pos (show (57 : Int32) < nI (X b) from nI_lt (a := 57) q (by omega)), b68]
    obtain ⟨I', e, r⟩ := b34
    refine ⟨I', ?_, r⟩
    unfold mX8_cutOne
    rw [if_pos s103]
    rcases hlo with q | q
    · rw [if_pos (show nI (X b) < (97 : Int32) from nI_lt (b := 97) q (by omega)), e]
    · rw [if_neg (show ¬ nI (X b) < (97 : Int32) from nI_nlt (a := X b) (b := 97) (by omega) (by omega)), if_pos (show (122 : Int32) < nI (X b) from nI_lt (a := 122) q (by omega)), e]
/-- split -/
theorem split_ok {X : Nat → Nat} {n : Nat} (hT : TC I X n) (hR : RS I) : ∃ m I', mX8_split 103 101 (hk σ I L) = some (hk σ I' L) ∧ m ≤ n ∧ TK I' X n (m + 1) ∧ pz X n m = n ∧ (∀ i, i < m → pz X n i < n) ∧ TF I I' := by
  have h480 := hT.1
  unfold mX8_split mX8_split_l9
  rw [if_pos s103, sI_ok s103, obind, setI_hk, hpI_hk']
  have ho : ∀ {J : Nat → Nat → Int32} {t : Nat}, t ≤ n → TK J X n t → TF I J → sk X n n = pz X n t → (∀ i, i < t → pz X n i < n) → ∃ o, mX8_split_b66 103 101 (hk σ J L) = some o ∧ ∃ m I', o = hk σ I' L ∧ m ≤ n ∧ TK I' X n (m + 1) ∧ pz X n m = n ∧ (∀ i, i < m → pz X n i < n) ∧ TF I I' := by
    intro J t ht hK hF hsk hlt
    have hpz : pz X n t = n := by rw [← hsk]; exact rn_off (Or.inl (Nat.le_refl _))
    obtain ⟨I', e, r⟩ := TK.more (σ := σ) (L := L) hK (by omega) hpz
    have e1 : ck X n n = 0 := by unfold ck; rw [if_pos (Nat.le_refl _)]
    have e2 : cv X n n = 0 := by unfold cv; rw [if_pos (Nat.le_refl _)]
    rw [e1, e2] at e
    have e : mX8_note 103 (0 : Int32) (nI n) (0 : Int32) (hk σ J L) = some (hk σ I' L) := e
    refine ⟨_, ?_, t, I', rfl, ht, r.1, hpz, hlt, hF.tr r.2⟩
    unfold mX8_split_b66
    rw [gI_o 1 (n := 2) rfl, obind, (hT.tf hF).2.1, e, obind]
  obtain ⟨o, e, m, I', rfl, hr⟩ := lp_invX (f := fun s : Int32 × Int32 × Hp => mX8_split_l9f 103 101 s.1 s.2.1 s.2.2) 480
    (fun i st => ∃ p t J, st = (nI p, nI i, hk σ J L) ∧ i ≤ p ∧ p ≤ n ∧ t ≤ p ∧ TK J X n t ∧ TF I J ∧ sk X n p = pz X n t ∧ ∀ i, i < t → pz X n i < n)
    (fun o => ∃ m I', o = hk σ I' L ∧ m ≤ n ∧ TK I' X n (m + 1) ∧ pz X n m = n ∧ (∀ i, i < m → pz X n i < n) ∧ TF I I')
    (fun i st hi hQ => by
      obtain ⟨p, t, J, rfl, hip, hpn, htp, hK, hF, hsk, hlt⟩ := hQ
      have hTJ := hT.tf hF
      show (∃ t', mX8_split_l9f 103 101 (nI p) (nI i) (hk σ J L) = some (.inl t') ∧ _) ∨ ∃ r, mX8_split_l9f 103 101 (nI p) (nI i) (hk σ J L) = some (.inr r) ∧ _
      unfold mX8_split_l9f mX8_split_b45 mX8_split_b60
      rw [show (480 : Int32) = nI 480 from rfl, c_lt hi (by omega), gI_o 1 (n := 2) rfl, obind, hTJ.2.1]
      by_cases hp : p < n
      · left
        have hX := (hTJ.2.2 p hp).1
        rw [c_lt hp (by omega), tread_ok hTJ hp, obind, show (10 : Int32) = nI 10 from rfl, c_eqd (by omega) (by omega), show (32 : Int32) = nI 32 from rfl, c_eqd (by omega) (by omega), nI_1, nI_1]
        cases hb : blk X p with
        | true =>
          have hsk' : sk X n (p + 1) = pz X n t := by rw [← hsk]; exact (rn_on hp hb).symm
          refine ⟨(nI (p + 1), nI (i + 1), hk σ J L), ?_, p + 1, t, J, rfl, by omega, by omega, by omega, hK, hF, hsk', hlt⟩
          by_cases q : X p = 10
          · rw [if_pos q]
          · rw [if_neg q]
            by_cases q2 : X p = 32
            · rw [if_pos q2]
            · have : blk X p = false := by unfold blk; rw [decide_eq_false q, decide_eq_false q2]; rfl
              rw [this] at hb; cases hb
        | false =>
          have hbn := blk_no hb
          have hpz : pz X n t = p := by rw [← hsk]; exact rn_off (Or.inr hb)
          obtain ⟨J', e, hK', hF'⟩ := cut_ok (σ := σ) (L := L) hK (by omega) hpz hTJ (hR.tf hF) hp
          have ht := te_gt (X := X) hp
          refine ⟨(nI (te X n p), nI (i + 1), hk σ J' L), ?_, te X n p, t + 1, J', rfl, by omega, ht.2, by omega, hK', hF.tr hF', ?_, fun j hj => ?_⟩
          · rw [if_neg hbn.2, if_neg hbn.1, e, b2s]
          · show sk X n (te X n p) = sk X n (te X n (pz X n t))
            rw [hpz]
          · by_cases q : j = t
            · rw [q, hpz]; exact hp
            · exact hlt j (by omega)
      · right
        have : p = n := by omega
        subst this
        obtain ⟨o, e, r⟩ := ho (by omega) hK hF hsk hlt
        exact ⟨o, by rw [c_nlt (Nat.le_refl _) (by omega), e, xts], r⟩)
    (fun st hQ => by
      obtain ⟨p, t, J, rfl, hip, hpn, htp, hK, hF, hsk, hlt⟩ := hQ
      have : p = n := by omega
      subst this
      obtain ⟨o, e, r⟩ := ho (by omega) hK hF hsk hlt
      refine ⟨o, ?_, r⟩
      show mX8_split_l9f 103 101 (nI p) (nI 480) (hk σ J L) = _
      unfold mX8_split_l9f
      rw [if_neg (by decide), e, xts]) (i := 0) (s := ((0 : Int32), (0 : Int32), hk σ (rowUp I 103 (updA (I 103) 4 0)) L)) (Nat.zero_le _)
    ⟨0, 0, rowUp I 103 (updA (I 103) 4 0), rfl, by omega, by omega, by omega, ⟨by rw [rowUp_same, updA_same]; rfl, fun i hi => by omega⟩, ⟨rowUp_ne _ _ (by omega), fun x hx => rowUp_ne _ _ (by omega)⟩, rfl, fun i hi => by omega⟩
  exact ⟨m, I', e, hr⟩
end Split
