/-! HEAPS WITH FIXED SHAPES: what the two objects are made of once they are made; runs of mirrors by rewriting -/
def lawSh (j : Nat) : Nat × Nat := if j = 0 then (2, 20) else if j = 1 then (50, 8) else if j = 2 then (50, 13) else if j = 3 then (50, 5) else if j = 4 then (50, 6) else if j = 5 then (50, 5) else if j = 6 then (50, 5) else if j = 7 then (50, 960) else if j = 8 then (50, 26) else if j = 9 then (50, 26) else if j = 10 then (50, 256) else if j = 11 then (11, 1) else if j = 12 then (51, 4) else if j = 13 then (70, 31) else if j % 2 = 0 then (11, 1) else (51, 4)
def stSh (j : Nat) : Nat × Nat := if j = 0 then (6, 15) else (50, 8)
def fixL : List (Nat × Nat × Nat) := [(100, 12, 18), (101, 8, 2), (102, 50, 480), (103, 9, 5), (104, 50, 481), (105, 50, 481), (106, 50, 481), (107, 50, 11), (108, 5, 7), (109, 51, 64), (110, 51, 64), (111, 51, 7), (282, 3, 9), (283, 11, 1), (284, 51, 4), (285, 1, 5), (286, 65, 16), (287, 65, 2), (414, 11, 1), (415, 51, 4), (416, 11, 1), (417, 51, 4), (418, 11, 1), (419, 51, 4), (420, 10, 5), (421, 50, 256), (422, 50, 256), (423, 50, 6561), (424, 50, 6561), (425, 4, 5), (426, 7, 6), (427, 50, 256), (428, 50, 256), (429, 50, 256), (430, 51, 256), (431, 50, 256), (432, 50, 8)]
def lookP (a : Nat) : List (Nat × Nat × Nat) → Nat × Nat
  | [] => (0, 0)
  | (b, x) :: l => if a = b then x else lookP a l
def SH0 (a : Nat) : Nat × Nat := if 112 ≤ a ∧ a < 268 then lawSh ((a - 112) % 78) else if 268 ≤ a ∧ a < 282 then stSh ((a - 268) % 7) else if 288 ≤ a ∧ a < 414 then stSh ((a - 288) % 7) else lookP a fixL
/-- what else there is: shapes, references, how many cells and slots -/
abbrev En : Type := (Nat → Nat × Nat) × (Nat → Nat → Nat) × Nat × Nat
def SH (n : En) (a : Nat) : Nat × Nat := if 100 ≤ a ∧ a < 433 then SH0 a else if a = 2 then (81, 6) else n.1 a
def lookR (a k : Nat) : List (Nat × Nat × Nat) → Nat
  | [] => 0
  | (b, j, x) :: l => if a = b ∧ k = j then x else lookR a k l
def refL : List (Nat × Nat × Nat) := [(101, 0, 102), (103, 0, 104), (103, 1, 105), (103, 2, 106), (103, 3, 107), (108, 0, 109), (108, 1, 110), (108, 2, 111), (283, 0, 284), (285, 0, 286), (285, 1, 287), (286, 0, 288), (286, 1, 295), (286, 2, 302), (286, 3, 309), (286, 4, 316), (286, 5, 323), (286, 6, 330), (286, 7, 337), (286, 8, 344), (286, 9, 351), (286, 10, 358), (286, 11, 365), (286, 12, 372), (286, 13, 379), (286, 14, 386), (286, 15, 393), (287, 0, 400), (287, 1, 407), (414, 0, 415), (416, 0, 417), (418, 0, 419), (420, 0, 421), (420, 1, 422), (420, 2, 423), (420, 3, 424), (426, 0, 427), (426, 1, 428), (426, 2, 429), (426, 3, 430), (426, 4, 431)]
def lawR (a j k : Nat) : Nat := if j = 0 then (if k = 6 then a + 1 else if k = 7 then a + 2 else if k = 8 then a + 3 else if k = 9 then a + 4 else if k = 10 then a + 5 else if k = 11 then a + 6 else if k = 12 then a + 7 else if k = 14 then a + 8 else if k = 15 then a + 9 else if k = 16 then a + 10 else if k = 17 then a + 11 else if k = 18 then a + 13 else if k = 19 then a + 14 else 0) else if j = 13 then (if k < 31 then a + 3 + 2 * k else 0) else if j = 11 ∨ j = 14 ∨ (16 ≤ j ∧ j % 2 = 0) then (if k = 0 then a + 1 else 0) else 0
def stR0 (a j k : Nat) : Nat := if j = 0 then (if 9 ≤ k ∧ k < 15 then a + (k - 8) else 0) else 0
def RF0 (a k : Nat) : Nat := if 112 ≤ a ∧ a < 268 then lawR a ((a - 112) % 78) k else if 268 ≤ a ∧ a < 282 then stR0 a ((a - 268) % 7) k else if 288 ≤ a ∧ a < 414 then stR0 a ((a - 288) % 7) k else lookR a k refL
/-- how long the script is; the law, the draft, the state, the one to be filed; the parser's law and state -/
abbrev Sg : Type := En × Nat × Nat × Nat × Nat × Nat × Nat
def gN (σ : Sg) : En := σ.1
def gla (σ : Sg) : Nat := σ.2.1
def glb (σ : Sg) : Nat := σ.2.2.1
def gsa (σ : Sg) : Nat := σ.2.2.2.1
def gsb (σ : Sg) : Nat := σ.2.2.2.2.1
def gpl (σ : Sg) : Nat := σ.2.2.2.2.2.1
def gps (σ : Sg) : Nat := σ.2.2.2.2.2.2
def RF (σ : Sg) (a k : Nat) : Nat := if a = 100 then (if k = 0 then 101 else if k = 1 then 103 else if k = 2 then 108 else if k = 3 then gla σ else if k = 4 then glb σ else if k = 5 then gsa σ else if k = 6 then gsb σ else if k = 7 then 282 else if k = 8 then 285 else if k = 9 then 414 else if k = 10 then 416 else if k = 11 then 418 else if k = 12 then 420 else if k = 13 then 425 else if k = 14 then 426 else if k = 15 then 432 else 0) else if a = 282 then (if k = 0 then 103 else if k = 1 then 108 else if k = 2 then 283 else if k = 3 then gpl σ else if k = 4 then gps σ else 0) else if 100 ≤ a ∧ a < 433 then RF0 a k else (gN σ).2.1 a k
def hk (σ : Sg) (I : Nat → Nat → Int32) (L : Nat → Nat → Int64) : Hp := (SH (gN σ), I, L, RF σ, (gN σ).2.2.1, (gN σ).2.2.2)
abbrev isLa (a : Nat) : Prop := a = 112 ∨ a = 190
abbrev isSt (s : Nat) : Prop := s = 268 ∨ s = 275 ∨ (288 ≤ s ∧ s < 414 ∧ (s - 288) % 7 = 0)
theorem SH_100 (n : En) : SH n 100 = (12, 18) := id rfl
theorem SH_101 (n : En) : SH n 101 = (8, 2) := id rfl
theorem SH_102 (n : En) : SH n 102 = (50, 480) := id rfl
theorem SH_103 (n : En) : SH n 103 = (9, 5) := id rfl
theorem SH_104 (n : En) : SH n 104 = (50, 481) := id rfl
theorem SH_105 (n : En) : SH n 105 = (50, 481) := id rfl
theorem SH_106 (n : En) : SH n 106 = (50, 481) := id rfl
theorem SH_107 (n : En) : SH n 107 = (50, 11) := id rfl
theorem SH_108 (n : En) : SH n 108 = (5, 7) := id rfl
theorem SH_109 (n : En) : SH n 109 = (51, 64) := id rfl
theorem SH_110 (n : En) : SH n 110 = (51, 64) := id rfl
theorem SH_111 (n : En) : SH n 111 = (51, 7) := id rfl
theorem SH_282 (n : En) : SH n 282 = (3, 9) := id rfl
theorem SH_283 (n : En) : SH n 283 = (11, 1) := id rfl
theorem SH_284 (n : En) : SH n 284 = (51, 4) := id rfl
theorem SH_285 (n : En) : SH n 285 = (1, 5) := id rfl
theorem SH_286 (n : En) : SH n 286 = (65, 16) := id rfl
theorem SH_287 (n : En) : SH n 287 = (65, 2) := id rfl
theorem SH_414 (n : En) : SH n 414 = (11, 1) := id rfl
theorem SH_415 (n : En) : SH n 415 = (51, 4) := id rfl
theorem SH_416 (n : En) : SH n 416 = (11, 1) := id rfl
theorem SH_417 (n : En) : SH n 417 = (51, 4) := id rfl
theorem SH_418 (n : En) : SH n 418 = (11, 1) := id rfl
theorem SH_419 (n : En) : SH n 419 = (51, 4) := id rfl
theorem SH_420 (n : En) : SH n 420 = (10, 5) := id rfl
theorem SH_421 (n : En) : SH n 421 = (50, 256) := id rfl
theorem SH_422 (n : En) : SH n 422 = (50, 256) := id rfl
theorem SH_423 (n : En) : SH n 423 = (50, 6561) := id rfl
theorem SH_424 (n : En) : SH n 424 = (50, 6561) := id rfl
theorem SH_425 (n : En) : SH n 425 = (4, 5) := id rfl
theorem SH_426 (n : En) : SH n 426 = (7, 6) := id rfl
theorem SH_427 (n : En) : SH n 427 = (50, 256) := id rfl
theorem SH_428 (n : En) : SH n 428 = (50, 256) := id rfl
theorem SH_429 (n : En) : SH n 429 = (50, 256) := id rfl
theorem SH_430 (n : En) : SH n 430 = (51, 256) := id rfl
theorem SH_431 (n : En) : SH n 431 = (50, 256) := id rfl
theorem SH_432 (n : En) : SH n 432 = (50, 8) := id rfl
theorem SH_2 (n : En) : SH n 2 = (81, 6) := id rfl
theorem SH_la0 {n : En} {la : Nat} (h : isLa la) : SH n (la) = (2, 20) := by rcases h with rfl | rfl <;> rfl
theorem SH_la1 {n : En} {la : Nat} (h : isLa la) : SH n (la + 1) = (50, 8) := by rcases h with rfl | rfl <;> rfl
theorem SH_la2 {n : En} {la : Nat} (h : isLa la) : SH n (la + 2) = (50, 13) := by rcases h with rfl | rfl <;> rfl
theorem SH_la3 {n : En} {la : Nat} (h : isLa la) : SH n (la + 3) = (50, 5) := by rcases h with rfl | rfl <;> rfl
theorem SH_la4 {n : En} {la : Nat} (h : isLa la) : SH n (la + 4) = (50, 6) := by rcases h with rfl | rfl <;> rfl
theorem SH_la5 {n : En} {la : Nat} (h : isLa la) : SH n (la + 5) = (50, 5) := by rcases h with rfl | rfl <;> rfl
theorem SH_la6 {n : En} {la : Nat} (h : isLa la) : SH n (la + 6) = (50, 5) := by rcases h with rfl | rfl <;> rfl
theorem SH_la7 {n : En} {la : Nat} (h : isLa la) : SH n (la + 7) = (50, 960) := by rcases h with rfl | rfl <;> rfl
theorem SH_la8 {n : En} {la : Nat} (h : isLa la) : SH n (la + 8) = (50, 26) := by rcases h with rfl | rfl <;> rfl
theorem SH_la9 {n : En} {la : Nat} (h : isLa la) : SH n (la + 9) = (50, 26) := by rcases h with rfl | rfl <;> rfl
theorem SH_la10 {n : En} {la : Nat} (h : isLa la) : SH n (la + 10) = (50, 256) := by rcases h with rfl | rfl <;> rfl
theorem SH_la11 {n : En} {la : Nat} (h : isLa la) : SH n (la + 11) = (11, 1) := by rcases h with rfl | rfl <;> rfl
theorem SH_la12 {n : En} {la : Nat} (h : isLa la) : SH n (la + 12) = (51, 4) := by rcases h with rfl | rfl <;> rfl
theorem SH_la13 {n : En} {la : Nat} (h : isLa la) : SH n (la + 13) = (70, 31) := by rcases h with rfl | rfl <;> rfl
theorem SH_la14 {n : En} {la : Nat} (h : isLa la) : SH n (la + 14) = (11, 1) := by rcases h with rfl | rfl <;> rfl
theorem SH_la15 {n : En} {la : Nat} (h : isLa la) : SH n (la + 15) = (51, 4) := by rcases h with rfl | rfl <;> rfl
theorem SH_laT {n : En} {la i : Nat} (h : isLa la) (hi : i < 31) : SH n (la + 16 + 2 * i) = (11, 1) := by
  have k : ∀ i, i < 31 → SH0 (112 + 16 + 2 * i) = (11, 1) ∧ SH0 (190 + 16 + 2 * i) = (11, 1) := by decide +kernel
  unfold SH
  rcases h with rfl | rfl
  · rw [if_pos (by omega)]; exact (k i hi).1
  · rw [if_pos (by omega)]; exact (k i hi).2
theorem SH_laP {n : En} {la i : Nat} (h : isLa la) (hi : i < 31) : SH n (la + 17 + 2 * i) = (51, 4) := by
  have k : ∀ i, i < 31 → SH0 (112 + 17 + 2 * i) = (51, 4) ∧ SH0 (190 + 17 + 2 * i) = (51, 4) := by decide +kernel
  unfold SH
  rcases h with rfl | rfl
  · rw [if_pos (by omega)]; exact (k i hi).1
  · rw [if_pos (by omega)]; exact (k i hi).2
theorem isSt_cases {s : Nat} (h : isSt s) : s = 268 ∨ s = 275 ∨ ∃ i, i < 18 ∧ s = 288 + 7 * i := by
  rcases h with h | h | ⟨h1, h2, h3⟩
  · exact Or.inl h
  · exact Or.inr (Or.inl h)
  · exact Or.inr (Or.inr ⟨(s - 288) / 7, by omega, by omega⟩)
theorem SH_st0 {n : En} {s : Nat} (h : isSt s) : SH n (s) = (6, 15) := by
  have k : ∀ i, i < 18 → SH0 (288 + 7 * i + 0) = (6, 15) := by decide +kernel
  rcases isSt_cases h with rfl | rfl | ⟨i, hi, rfl⟩
  · rfl
  · rfl
  · unfold SH; rw [if_pos (by omega)]; exact k i hi
theorem SH_st1 {n : En} {s : Nat} (h : isSt s) : SH n (s + 1) = (50, 8) := by
  have k : ∀ i, i < 18 → SH0 (288 + 7 * i + 1) = (50, 8) := by decide +kernel
  rcases isSt_cases h with rfl | rfl | ⟨i, hi, rfl⟩
  · rfl
  · rfl
  · unfold SH; rw [if_pos (by omega)]; exact k i hi
theorem SH_st2 {n : En} {s : Nat} (h : isSt s) : SH n (s + 2) = (50, 8) := by
  have k : ∀ i, i < 18 → SH0 (288 + 7 * i + 2) = (50, 8) := by decide +kernel
  rcases isSt_cases h with rfl | rfl | ⟨i, hi, rfl⟩
  · rfl
  · rfl
  · unfold SH; rw [if_pos (by omega)]; exact k i hi
theorem SH_st3 {n : En} {s : Nat} (h : isSt s) : SH n (s + 3) = (50, 8) := by
  have k : ∀ i, i < 18 → SH0 (288 + 7 * i + 3) = (50, 8) := by decide +kernel
  rcases isSt_cases h with rfl | rfl | ⟨i, hi, rfl⟩
  · rfl
  · rfl
  · unfold SH; rw [if_pos (by omega)]; exact k i hi
theorem SH_st4 {n : En} {s : Nat} (h : isSt s) : SH n (s + 4) = (50, 8) := by
  have k : ∀ i, i < 18 → SH0 (288 + 7 * i + 4) = (50, 8) := by decide +kernel
  rcases isSt_cases h with rfl | rfl | ⟨i, hi, rfl⟩
  · rfl
  · rfl
  · unfold SH; rw [if_pos (by omega)]; exact k i hi
theorem SH_st5 {n : En} {s : Nat} (h : isSt s) : SH n (s + 5) = (50, 8) := by
  have k : ∀ i, i < 18 → SH0 (288 + 7 * i + 5) = (50, 8) := by decide +kernel
  rcases isSt_cases h with rfl | rfl | ⟨i, hi, rfl⟩
  · rfl
  · rfl
  · unfold SH; rw [if_pos (by omega)]; exact k i hi
theorem SH_st6 {n : En} {s : Nat} (h : isSt s) : SH n (s + 6) = (50, 8) := by
  have k : ∀ i, i < 18 → SH0 (288 + 7 * i + 6) = (50, 8) := by decide +kernel
  rcases isSt_cases h with rfl | rfl | ⟨i, hi, rfl⟩
  · rfl
  · rfl
  · unfold SH; rw [if_pos (by omega)]; exact k i hi
section EXEC
variable {ρ : Type} {σ : Sg} {I : Nat → Nat → Int32} {L : Nat → Nat → Int64}
theorem hpS_hk (a : Nat) : hpS (hk σ I L) a = SH (gN σ) a := id rfl
theorem hpI_hk (a k : Nat) : hpI (hk σ I L) a k = I a k := id rfl
theorem hpI_hk' (a : Nat) : hpI (hk σ I L) a = I a := id rfl
theorem hpL_hk (a k : Nat) : hpL (hk σ I L) a k = L a k := id rfl
theorem hpR_hk (a k : Nat) : hpR (hk σ I L) a k = RF σ a k := id rfl
theorem setI_hk (a : Nat) (r : Nat → Int32) : setI (hk σ I L) a r = hk σ (rowUp I a r) L := id rfl
theorem setL_hk (a : Nat) (r : Nat → Int64) : setL (hk σ I L) a r = hk σ I (rowUp L a r) := id rfl
theorem rowUp_at {α : Type} (f : Nat → Nat → α) (a b : Nat) (r : Nat → α) : rowUp f a r b = if b = a then r else f b := id rfl
theorem rowUp_id {α : Type} (f : Nat → Nat → α) (a : Nat) : rowUp f a (f a) = f := by
  funext b; unfold rowUp; by_cases h : b = a
  · subst h; simp
  · simp [h]
theorem rowUp_two {α : Type} (f : Nat → Nat → α) (a : Nat) (r s : Nat → α) : rowUp (rowUp f a r) a s = rowUp f a s := by
  funext b; unfold rowUp; by_cases h : b = a <;> simp [h]
theorem rowUp_sw {α : Type} (f : Nat → Nat → α) {a b : Nat} (r s : Nat → α) (h : b < a) : rowUp (rowUp f a r) b s = rowUp (rowUp f b s) (a + 0) r := by
  rw [Nat.add_zero]
  funext c; unfold rowUp
  by_cases h1 : c = b
  · subst h1; simp [show ¬ c = a by omega]
  · simp [h1]
theorem updA_two {α : Type} (f : Nat → α) (k : Nat) (x y : α) : updA (updA f k x) k y = updA f k y := by
  funext j; unfold updA; by_cases h : j = k <;> simp [h]
theorem upI_hk (a k : Nat) (x : Int32) : upI (hk σ I L) a k x = hk σ (rowUp I a (updA (I a) k x)) L := upI_set _ a k x
theorem upL_hk (a k : Nat) (x : Int64) : upL (hk σ I L) a k x = hk σ I (rowUp L a (updA (L a) k x)) := upL_set _ a k x
def kI (s : Nat × Nat) (i : Int32) : Bool := decide ((s.1 = 50 ∨ s.1 = 80) ∧ inB i s.2 = true)
def kL (s : Nat × Nat) (i : Int32) : Bool := decide ((s.1 = 51 ∨ s.1 = 81) ∧ inB i s.2 = true)
def kS (t : Nat) (s : Nat × Nat) (i : Int32) : Bool := decide (s.1 = t ∧ inB i s.2 = true)
theorem kI_50 {n i : Nat} (h : i < n) (hn : n < 2147483648) : kI (50, n) (nI i) = true := by
  unfold kI; rw [inB_nI (by omega)]; simp [h]
theorem kI_80 {n i : Nat} (h : i < n) (hn : n < 2147483648) : kI (80, n) (nI i) = true := by
  unfold kI; rw [inB_nI (by omega)]; simp [h]
theorem kL_51 {n i : Nat} (h : i < n) (hn : n < 2147483648) : kL (51, n) (nI i) = true := by
  unfold kL; rw [inB_nI (by omega)]; simp [h]
theorem kL_81 {n i : Nat} (h : i < n) (hn : n < 2147483648) : kL (81, n) (nI i) = true := by
  unfold kL; rw [inB_nI (by omega)]; simp [h]
theorem kS_ok {t n i : Nat} (h : i < n) (hn : n < 2147483648) : kS t (t, n) (nI i) = true := by
  unfold kS; rw [inB_nI (by omega)]; simp [h]
theorem kI_0 {n : Nat} (h : 0 < n) (hn : n < 2147483648) : kI (50, n) 0 = true := kI_50 h hn
theorem kI_1 {n : Nat} (h : 1 < n) (hn : n < 2147483648) : kI (50, n) 1 = true := kI_50 h hn
theorem kL_0 {n : Nat} (h : 0 < n) (hn : n < 2147483648) : kL (51, n) 0 = true := kL_51 h hn
theorem kS_0 {t n : Nat} (h : 0 < n) (hn : n < 2147483648) : kS t (t, n) 0 = true := kS_ok h hn
theorem kS_1 {t n : Nat} (h : 1 < n) (hn : n < 2147483648) : kS t (t, n) 1 = true := kS_ok h hn
theorem ixN_n {i : Nat} (h : i < 2147483648) : ixN (nI i) = i := ixN_nI h
theorem ixN_0 : ixN 0 = 0 := by decide
theorem ixN_1 : ixN 1 = 1 := by decide
theorem gI_b (c k a : Nat) (f : Int32 → Option ρ) : (gI c k a (hk σ I L)).bind f = if (SH (gN σ) a).1 = c + 1 then f (I a k) else none := by
  unfold gI; rw [hpS_hk]; split <;> rfl
theorem gL_b (c k a : Nat) (f : Int64 → Option ρ) : (gL c k a (hk σ I L)).bind f = if (SH (gN σ) a).1 = c + 1 then f (L a k) else none := by
  unfold gL; rw [hpS_hk]; split <;> rfl
theorem gR_b (c k a : Nat) (f : Nat → Option ρ) : (gR c k a (hk σ I L)).bind f = if (SH (gN σ) a).1 = c + 1 then f (RF σ a k) else none := by
  unfold gR; rw [hpS_hk]; split <;> rfl
theorem sI_b (c k a : Nat) (x : Int32) (f : Hp → Option ρ) : (sI c k a x (hk σ I L)).bind f = if (SH (gN σ) a).1 = c + 1 then f (hk σ (rowUp I a (updA (I a) k x)) L) else none := by
  unfold sI; rw [hpS_hk]; split
  · rw [upI_hk]; rfl
  · rfl
theorem sZ_b (c k a : Nat) (x : Int32) (f : Hp → Option ρ) : (sZ c k a x (hk σ I L)).bind f = if (SH (gN σ) a).1 = c + 1 ∧ (x = 0 ∨ x = 1) then f (hk σ (rowUp I a (updA (I a) k x)) L) else none := by
  unfold sZ; rw [hpS_hk]; split
  · rw [upI_hk]; rfl
  · rfl
theorem sL_b (c k a : Nat) (x : Int64) (f : Hp → Option ρ) : (sL c k a x (hk σ I L)).bind f = if (SH (gN σ) a).1 = c + 1 then f (hk σ I (rowUp L a (updA (L a) k x))) else none := by
  unfold sL; rw [hpS_hk]; split
  · rw [upL_hk]; rfl
  · rfl
theorem aLen_b (a : Nat) (f : Int32 → Option ρ) : (aLen a (hk σ I L)).bind f = if aKd (SH (gN σ) a).1 = true then f (nI (SH (gN σ) a).2) else none := by
  unfold aLen; rw [hpS_hk]; split <;> rfl
theorem ldI_b (a : Nat) (i : Int32) (f : Int32 → Option ρ) : (ldI a i (hk σ I L)).bind f = if kI (SH (gN σ) a) i = true then f (I a (ixN i)) else none := by
  unfold ldI kI; rw [hpS_hk, hpI_hk]; split <;> rename_i h <;> simp [h]
theorem ldL_b (a : Nat) (i : Int32) (f : Int64 → Option ρ) : (ldL a i (hk σ I L)).bind f = if kL (SH (gN σ) a) i = true then f (L a (ixN i)) else none := by
  unfold ldL kL; rw [hpS_hk, hpL_hk]; split <;> rename_i h <;> simp [h]
theorem ldZ_b (a : Nat) (i : Int32) (f : Int32 → Option ρ) : (ldZ a i (hk σ I L)).bind f = if kS 52 (SH (gN σ) a) i = true then f (I a (ixN i)) else none := by
  unfold ldZ kS; rw [hpS_hk, hpI_hk]; split <;> rename_i h <;> simp [h]
theorem ldR_b (c a : Nat) (i : Int32) (f : Nat → Option ρ) : (ldR c a i (hk σ I L)).bind f = if kS (60 + c) (SH (gN σ) a) i = true then f (RF σ a (ixN i)) else none := by
  unfold ldR kS; rw [hpS_hk, hpR_hk]; split <;> rename_i h <;> simp [h]
theorem stI_b (a : Nat) (i x : Int32) (f : Hp → Option ρ) : (stI a i x (hk σ I L)).bind f = if kS 50 (SH (gN σ) a) i = true then f (hk σ (rowUp I a (updA (I a) (ixN i) x)) L) else none := by
  unfold stI kS; rw [hpS_hk, upI_hk]; split <;> rename_i h <;> simp [h]
theorem stL_b (a : Nat) (i : Int32) (x : Int64) (f : Hp → Option ρ) : (stL a i x (hk σ I L)).bind f = if kS 51 (SH (gN σ) a) i = true then f (hk σ I (rowUp L a (updA (L a) (ixN i) x))) else none := by
  unfold stL kS; rw [hpS_hk, upL_hk]; split <;> rename_i h <;> simp [h]
theorem stZ_b (a : Nat) (i x : Int32) (f : Hp → Option ρ) : (stZ a i x (hk σ I L)).bind f = if kS 52 (SH (gN σ) a) i = true ∧ (x = 0 ∨ x = 1) then f (hk σ (rowUp I a (updA (I a) (ixN i) x)) L) else none := by
  unfold stZ kS; rw [hpS_hk, upI_hk]; split <;> rename_i h <;> simp [h]
theorem gI_e (c k a : Nat) : gI c k a (hk σ I L) = if (SH (gN σ) a).1 = c + 1 then some (I a k) else none := id rfl
theorem gL_e (c k a : Nat) : gL c k a (hk σ I L) = if (SH (gN σ) a).1 = c + 1 then some (L a k) else none := id rfl
def atV (n : Nat) (r : Nat → Int32) (i : Int32) : Int32 := if inB i n = true then r (ixN i) else 0
def laV (n : Nat) (r : Nat → Int64) (i : Int32) : Int64 := if inB i n = true then r (ixN i) else 0
def putV (n : Nat) (r : Nat → Int32) (i v : Int32) : Nat → Int32 := if inB i n = true then updA r (ixN i) v else r
def plV (n : Nat) (r : Nat → Int64) (i : Int32) (v : Int64) : Nat → Int64 := if inB i n = true then updA r (ixN i) v else r
theorem atV_n {n i : Nat} (r : Nat → Int32) (h : i < n) (hn : n < 2147483648) : atV n r (nI i) = r i := by
  unfold atV; rw [inB_nI (by omega), ixN_nI (by omega)]; simp [h]
theorem atV_o {n i : Nat} (r : Nat → Int32) (h : n ≤ i) (hn : i < 2147483648) : atV n r (nI i) = 0 := by
  unfold atV; rw [inB_nI (by omega)]; simp; omega
theorem atV_0 {n : Nat} (r : Nat → Int32) (h : 0 < n) (hn : n < 2147483648) : atV n r 0 = r 0 := atV_n r h hn
theorem laV_n {n i : Nat} (r : Nat → Int64) (h : i < n) (hn : n < 2147483648) : laV n r (nI i) = r i := by
  unfold laV; rw [inB_nI (by omega), ixN_nI (by omega)]; simp [h]
theorem laV_0 {n : Nat} (r : Nat → Int64) (h : 0 < n) (hn : n < 2147483648) : laV n r 0 = r 0 := laV_n r h hn
theorem putV_n {n i : Nat} (r : Nat → Int32) (v : Int32) (h : i < n) (hn : n < 2147483648) : putV n r (nI i) v = updA r i v := by
  unfold putV; rw [inB_nI (by omega), ixN_nI (by omega)]; simp [h]
theorem plV_n {n i : Nat} (r : Nat → Int64) (v : Int64) (h : i < n) (hn : n < 2147483648) : plV n r (nI i) v = updA r i v := by
  unfold plV; rw [inB_nI (by omega), ixN_nI (by omega)]; simp [h]
theorem neg_inB {i : Int32} {n : Nat} (h : i < 0) : inB i n = false := inB_neg h
theorem at_e (a : Nat) (i : Int32) (h : (SH (gN σ) a).1 = 50) (hn : (SH (gN σ) a).2 < 2147483648) : mX11_at a i (hk σ I L) = some (atV (SH (gN σ) a).2 (I a) i) := by
  have hs : hpS (hk σ I L) a = (50, (SH (gN σ) a).2) := by rw [hpS_hk]; exact Prod.ext h rfl
  rcases ix_cases i with hi | ⟨j, hj, rfl⟩
  · rw [at_neg hi]; unfold atV; rw [neg_inB hi]; rfl
  · rw [at_nI hs hn hj]; unfold atV; rw [inB_nI hj, ixN_nI hj]; simp [hpI_hk]
theorem put_e (a : Nat) (i v : Int32) (h : (SH (gN σ) a).1 = 50) (hn : (SH (gN σ) a).2 < 2147483648) : mX11_put a i v (hk σ I L) = some (hk σ (rowUp I a (putV (SH (gN σ) a).2 (I a) i v)) L) := by
  have hs : hpS (hk σ I L) a = (50, (SH (gN σ) a).2) := by rw [hpS_hk]; exact Prod.ext h rfl
  rcases ix_cases i with hi | ⟨j, hj, rfl⟩
  · unfold mX11_put; rw [if_pos hi]; unfold putV; rw [neg_inB hi, if_neg (by decide), rowUp_id]
  · by_cases hb : j < (SH (gN σ) a).2
    · rw [put_nI hs hn hb, putV_n _ _ hb hn]; rfl
    · rw [put_out hs hn (by omega) hj]; unfold putV; rw [inB_nI hj, if_neg (by simpa using hb), rowUp_id]
theorem longAt_e (a : Nat) (i : Int32) (h : (SH (gN σ) a).1 = 51) (hn : (SH (gN σ) a).2 < 2147483648) : mX11_longAt a i (hk σ I L) = some (laV (SH (gN σ) a).2 (L a) i) := by
  have hs : hpS (hk σ I L) a = (51, (SH (gN σ) a).2) := by rw [hpS_hk]; exact Prod.ext h rfl
  rcases ix_cases i with hi | ⟨j, hj, rfl⟩
  · unfold mX11_longAt; rw [if_pos hi]; unfold laV; rw [neg_inB hi]; rfl
  · rw [longAt_nI hs hn hj]; unfold laV; rw [inB_nI hj, ixN_nI hj]; simp [hpL_hk]
theorem putLong_e (a : Nat) (i : Int32) (v : Int64) (h : (SH (gN σ) a).1 = 51) (hn : (SH (gN σ) a).2 < 2147483648) : mX11_putLong a i v (hk σ I L) = some (hk σ I (rowUp L a (plV (SH (gN σ) a).2 (L a) i v))) := by
  have hs : hpS (hk σ I L) a = (51, (SH (gN σ) a).2) := by rw [hpS_hk]; exact Prod.ext h rfl
  rcases ix_cases i with hi | ⟨j, hj, rfl⟩
  · unfold mX11_putLong; rw [if_pos hi]; unfold plV; rw [neg_inB hi, if_neg (by decide), rowUp_id]
  · by_cases hb : j < (SH (gN σ) a).2
    · rw [putLong_nI hs hn hb, plV_n _ _ hb hn]; rfl
    · unfold mX11_putLong
      rw [if_neg (nI_pos hj), aLen_ok hs rfl, Option.bind_some, c_nlt (by omega) hj]
      unfold plV; rw [inB_nI hj, if_neg (by simpa using hb), rowUp_id]
def k50 (s : Nat × Nat) : Bool := decide (s.1 = 50 ∧ s.2 < 2147483648)
def k51 (s : Nat × Nat) : Bool := decide (s.1 = 51 ∧ s.2 < 2147483648)
theorem k50_ok {n : Nat} (h : n < 2147483648) : k50 (50, n) = true := by simp [k50, h]
theorem k51_ok {n : Nat} (h : n < 2147483648) : k51 (51, n) = true := by simp [k51, h]
noncomputable def atO (a : Nat) (i : Int32) (h : Hp) : Option Int32 := mX11_at a i h
noncomputable def laO (a : Nat) (i : Int32) (h : Hp) : Option Int64 := mX11_longAt a i h
noncomputable def putO (a : Nat) (i v : Int32) (h : Hp) : Option Hp := mX11_put a i v h
noncomputable def plO (a : Nat) (i : Int32) (v : Int64) (h : Hp) : Option Hp := mX11_putLong a i v h
theorem at_b (a : Nat) (i : Int32) (f : Int32 → Option ρ) : (mX11_at a i (hk σ I L)).bind f = if k50 (SH (gN σ) a) = true then f (atV (SH (gN σ) a).2 (I a) i) else (atO a i (hk σ I L)).bind f := by
  split
  · rename_i h; unfold k50 at h; rw [at_e a i (of_decide_eq_true h).1 (of_decide_eq_true h).2]; rfl
  · rfl
theorem put_b (a : Nat) (i v : Int32) (f : Hp → Option ρ) : (mX11_put a i v (hk σ I L)).bind f = if k50 (SH (gN σ) a) = true then f (hk σ (rowUp I a (putV (SH (gN σ) a).2 (I a) i v)) L) else (putO a i v (hk σ I L)).bind f := by
  split
  · rename_i h; unfold k50 at h; rw [put_e a i v (of_decide_eq_true h).1 (of_decide_eq_true h).2]; rfl
  · rfl
theorem longAt_b (a : Nat) (i : Int32) (f : Int64 → Option ρ) : (mX11_longAt a i (hk σ I L)).bind f = if k51 (SH (gN σ) a) = true then f (laV (SH (gN σ) a).2 (L a) i) else (laO a i (hk σ I L)).bind f := by
  split
  · rename_i h; unfold k51 at h; rw [longAt_e a i (of_decide_eq_true h).1 (of_decide_eq_true h).2]; rfl
  · rfl
theorem putLong_b (a : Nat) (i : Int32) (v : Int64) (f : Hp → Option ρ) : (mX11_putLong a i v (hk σ I L)).bind f = if k51 (SH (gN σ) a) = true then f (hk σ I (rowUp L a (plV (SH (gN σ) a).2 (L a) i v))) else (plO a i v (hk σ I L)).bind f := by
  split
  · rename_i h; unfold k51 at h; rw [putLong_e a i v (of_decide_eq_true h).1 (of_decide_eq_true h).2]; rfl
  · rfl
def hasI (x i : Int32) : Int32 := if ((x >>> (i &&& 31)) &&& (1 : Int32)) = 0 then 0 else 1
theorem has_b (x i : Int32) (f : Int32 → Option ρ) : (mX11_has x i).bind f = f (hasI x i) := by
  unfold mX11_has hasI; split <;> rfl
theorem hasI_n {s i : Nat} (hs : s < 2147483648) (hi : i < 32) : hasI (nI s) (nI i) = bI (s.testBit i) := by
  have h1 := has_nI hs hi
  have h2 : mX11_has (nI s) (nI i) = some (hasI (nI s) (nI i)) := by unfold mX11_has hasI; split <;> rfl
  rw [h2] at h1; exact Option.some.inj h1
theorem needSlot_b (x y : Int32) (f : Int32 → Option ρ) : (mX11_needSlot x y).bind f = f (4 * x + y) := id rfl
theorem obind {α : Type} (a : α) (f : α → Option ρ) : (some a).bind f = f a := id rfl
theorem b2s {α β : Type} (a : α) (b : β) (K : α → β → Option ρ) : b2 (some (a, b)) K = K a b := id rfl
theorem xts {S : Type} (r : ρ) : xt (S := S) (some r) = some (.inr r) := id rfl
theorem updAt {α : Type} (f : Nat → α) (k j : Nat) (x : α) : updA f k x j = if j = k then x else f j := id rfl
theorem bd {α : Type} {x : Option α} {v : α} (h : x = some v) (f : α → Option ρ) : x.bind f = f v := by rw [h]; rfl
theorem bd2 {α β : Type} {x : Option (α × β)} {v : α × β} (h : x = some v) (f : α → β → Option ρ) : b2 x f = f v.1 v.2 := by rw [h]; rfl
theorem z01_b (b : Bool) (f : Int32 → Option ρ) : (z01 (bI b)).bind f = f (bI b) := by
  unfold z01; rw [if_pos (bI_01 b)]; rfl
theorem z01_e (b : Bool) : z01 (bI b) = some (bI b) := by unfold z01; rw [if_pos (bI_01 b)]
theorem z01_0 (f : Int32 → Option ρ) : (z01 0).bind f = f 0 := id rfl
theorem z01_1 (f : Int32 → Option ρ) : (z01 1).bind f = f 1 := id rfl
theorem nzI {x : Int32} (h : x ≠ 0) (f : Int32 → Option ρ) : (nz x).bind f = f x := by unfold nz; rw [if_neg h]; rfl
theorem nz10 (f : Int32 → Option ρ) : (nz 10).bind f = f 10 := id rfl
theorem nz100 (f : Int32 → Option ρ) : (nz 100).bind f = f 100 := id rfl
theorem nzL10 (f : Int64 → Option ρ) : (nzL 10).bind f = f 10 := id rfl
end EXEC
theorem RF_100_0 (σ : Sg) : RF σ 100 0 = 101 := id rfl
theorem RF_100_1 (σ : Sg) : RF σ 100 1 = 103 := id rfl
theorem RF_100_2 (σ : Sg) : RF σ 100 2 = 108 := id rfl
theorem RF_100_3 (σ : Sg) : RF σ 100 3 = gla σ := id rfl
theorem RF_100_4 (σ : Sg) : RF σ 100 4 = glb σ := id rfl
theorem RF_100_5 (σ : Sg) : RF σ 100 5 = gsa σ := id rfl
theorem RF_100_6 (σ : Sg) : RF σ 100 6 = gsb σ := id rfl
theorem RF_100_7 (σ : Sg) : RF σ 100 7 = 282 := id rfl
theorem RF_100_8 (σ : Sg) : RF σ 100 8 = 285 := id rfl
theorem RF_100_9 (σ : Sg) : RF σ 100 9 = 414 := id rfl
theorem RF_100_10 (σ : Sg) : RF σ 100 10 = 416 := id rfl
theorem RF_100_11 (σ : Sg) : RF σ 100 11 = 418 := id rfl
theorem RF_100_12 (σ : Sg) : RF σ 100 12 = 420 := id rfl
theorem RF_100_13 (σ : Sg) : RF σ 100 13 = 425 := id rfl
theorem RF_100_14 (σ : Sg) : RF σ 100 14 = 426 := id rfl
theorem RF_100_15 (σ : Sg) : RF σ 100 15 = 432 := id rfl
theorem RF_282_0 (σ : Sg) : RF σ 282 0 = 103 := id rfl
theorem RF_282_1 (σ : Sg) : RF σ 282 1 = 108 := id rfl
theorem RF_282_2 (σ : Sg) : RF σ 282 2 = 283 := id rfl
theorem RF_282_3 (σ : Sg) : RF σ 282 3 = gpl σ := id rfl
theorem RF_282_4 (σ : Sg) : RF σ 282 4 = gps σ := id rfl
theorem RF_101_0 (σ : Sg) : RF σ 101 0 = 102 := id rfl
theorem RF_103_0 (σ : Sg) : RF σ 103 0 = 104 := id rfl
theorem RF_103_1 (σ : Sg) : RF σ 103 1 = 105 := id rfl
theorem RF_103_2 (σ : Sg) : RF σ 103 2 = 106 := id rfl
theorem RF_103_3 (σ : Sg) : RF σ 103 3 = 107 := id rfl
theorem RF_108_0 (σ : Sg) : RF σ 108 0 = 109 := id rfl
theorem RF_108_1 (σ : Sg) : RF σ 108 1 = 110 := id rfl
theorem RF_108_2 (σ : Sg) : RF σ 108 2 = 111 := id rfl
theorem RF_283_0 (σ : Sg) : RF σ 283 0 = 284 := id rfl
theorem RF_285_0 (σ : Sg) : RF σ 285 0 = 286 := id rfl
theorem RF_285_1 (σ : Sg) : RF σ 285 1 = 287 := id rfl
theorem RF_414_0 (σ : Sg) : RF σ 414 0 = 415 := id rfl
theorem RF_416_0 (σ : Sg) : RF σ 416 0 = 417 := id rfl
theorem RF_418_0 (σ : Sg) : RF σ 418 0 = 419 := id rfl
theorem RF_420_0 (σ : Sg) : RF σ 420 0 = 421 := id rfl
theorem RF_420_1 (σ : Sg) : RF σ 420 1 = 422 := id rfl
theorem RF_420_2 (σ : Sg) : RF σ 420 2 = 423 := id rfl
theorem RF_420_3 (σ : Sg) : RF σ 420 3 = 424 := id rfl
theorem RF_426_0 (σ : Sg) : RF σ 426 0 = 427 := id rfl
theorem RF_426_1 (σ : Sg) : RF σ 426 1 = 428 := id rfl
theorem RF_426_2 (σ : Sg) : RF σ 426 2 = 429 := id rfl
theorem RF_426_3 (σ : Sg) : RF σ 426 3 = 430 := id rfl
theorem RF_426_4 (σ : Sg) : RF σ 426 4 = 431 := id rfl
theorem RF_286 (σ : Sg) {i : Nat} (h : i < 16) : RF σ 286 i = 288 + 7 * i := by
  have k : ∀ i, i < 16 → RF0 286 i = 288 + 7 * i := by decide +kernel
  exact k i h
theorem RF_287 (σ : Sg) {i : Nat} (h : i < 2) : RF σ 287 i = 400 + 7 * i := by
  have k : ∀ i, i < 2 → RF0 287 i = 400 + 7 * i := by decide +kernel
  exact k i h
theorem RF_la_6 (σ : Sg) {la : Nat} (h : isLa la) : RF σ la 6 = la + 1 := by rcases h with rfl | rfl <;> rfl
theorem RF_la_7 (σ : Sg) {la : Nat} (h : isLa la) : RF σ la 7 = la + 2 := by rcases h with rfl | rfl <;> rfl
theorem RF_la_8 (σ : Sg) {la : Nat} (h : isLa la) : RF σ la 8 = la + 3 := by rcases h with rfl | rfl <;> rfl
theorem RF_la_9 (σ : Sg) {la : Nat} (h : isLa la) : RF σ la 9 = la + 4 := by rcases h with rfl | rfl <;> rfl
theorem RF_la_10 (σ : Sg) {la : Nat} (h : isLa la) : RF σ la 10 = la + 5 := by rcases h with rfl | rfl <;> rfl
theorem RF_la_11 (σ : Sg) {la : Nat} (h : isLa la) : RF σ la 11 = la + 6 := by rcases h with rfl | rfl <;> rfl
theorem RF_la_12 (σ : Sg) {la : Nat} (h : isLa la) : RF σ la 12 = la + 7 := by rcases h with rfl | rfl <;> rfl
theorem RF_la_14 (σ : Sg) {la : Nat} (h : isLa la) : RF σ la 14 = la + 8 := by rcases h with rfl | rfl <;> rfl
theorem RF_la_15 (σ : Sg) {la : Nat} (h : isLa la) : RF σ la 15 = la + 9 := by rcases h with rfl | rfl <;> rfl
theorem RF_la_16 (σ : Sg) {la : Nat} (h : isLa la) : RF σ la 16 = la + 10 := by rcases h with rfl | rfl <;> rfl
theorem RF_la_17 (σ : Sg) {la : Nat} (h : isLa la) : RF σ la 17 = la + 11 := by rcases h with rfl | rfl <;> rfl
theorem RF_la_18 (σ : Sg) {la : Nat} (h : isLa la) : RF σ la 18 = la + 13 := by rcases h with rfl | rfl <;> rfl
theorem RF_la_19 (σ : Sg) {la : Nat} (h : isLa la) : RF σ la 19 = la + 14 := by rcases h with rfl | rfl <;> rfl
theorem RF_la11 (σ : Sg) {la : Nat} (h : isLa la) : RF σ (la + 11) 0 = la + 12 := by rcases h with rfl | rfl <;> rfl
theorem RF_la14 (σ : Sg) {la : Nat} (h : isLa la) : RF σ (la + 14) 0 = la + 15 := by rcases h with rfl | rfl <;> rfl
theorem RF_laT (σ : Sg) {la i : Nat} (h : isLa la) (hi : i < 31) : RF σ (la + 13) i = la + 16 + 2 * i := by
  have k : ∀ i, i < 31 → RF0 (112 + 13) i = 112 + 16 + 2 * i ∧ RF0 (190 + 13) i = 190 + 16 + 2 * i := by decide +kernel
  rcases h with rfl | rfl
  · exact (k i hi).1
  · exact (k i hi).2
theorem RF_laP (σ : Sg) {la i : Nat} (h : isLa la) (hi : i < 31) : RF σ (la + 16 + 2 * i) 0 = la + 17 + 2 * i := by
  have k : ∀ i, i < 31 → RF0 (112 + 16 + 2 * i) 0 = 112 + 17 + 2 * i ∧ RF0 (190 + 16 + 2 * i) 0 = 190 + 17 + 2 * i := by decide +kernel
  unfold RF
  rcases h with rfl | rfl
  · rw [if_neg (by omega), if_neg (by omega), if_pos (by omega)]; exact (k i hi).1
  · rw [if_neg (by omega), if_neg (by omega), if_pos (by omega)]; exact (k i hi).2
theorem RF_st_9 (σ : Sg) {s : Nat} (h : isSt s) : RF σ s 9 = s + 1 := by
  have k : ∀ i, i < 18 → RF0 (288 + 7 * i) 9 = 288 + 7 * i + 1 := by decide +kernel
  rcases isSt_cases h with rfl | rfl | ⟨i, hi, rfl⟩
  · rfl
  · rfl
  · unfold RF; rw [if_neg (by omega), if_neg (by omega), if_pos (by omega)]; exact k i hi
theorem RF_st_10 (σ : Sg) {s : Nat} (h : isSt s) : RF σ s 10 = s + 2 := by
  have k : ∀ i, i < 18 → RF0 (288 + 7 * i) 10 = 288 + 7 * i + 2 := by decide +kernel
  rcases isSt_cases h with rfl | rfl | ⟨i, hi, rfl⟩
  · rfl
  · rfl
  · unfold RF; rw [if_neg (by omega), if_neg (by omega), if_pos (by omega)]; exact k i hi
theorem RF_st_11 (σ : Sg) {s : Nat} (h : isSt s) : RF σ s 11 = s + 3 := by
  have k : ∀ i, i < 18 → RF0 (288 + 7 * i) 11 = 288 + 7 * i + 3 := by decide +kernel
  rcases isSt_cases h with rfl | rfl | ⟨i, hi, rfl⟩
  · rfl
  · rfl
  · unfold RF; rw [if_neg (by omega), if_neg (by omega), if_pos (by omega)]; exact k i hi
theorem RF_st_12 (σ : Sg) {s : Nat} (h : isSt s) : RF σ s 12 = s + 4 := by
  have k : ∀ i, i < 18 → RF0 (288 + 7 * i) 12 = 288 + 7 * i + 4 := by decide +kernel
  rcases isSt_cases h with rfl | rfl | ⟨i, hi, rfl⟩
  · rfl
  · rfl
  · unfold RF; rw [if_neg (by omega), if_neg (by omega), if_pos (by omega)]; exact k i hi
theorem RF_st_13 (σ : Sg) {s : Nat} (h : isSt s) : RF σ s 13 = s + 5 := by
  have k : ∀ i, i < 18 → RF0 (288 + 7 * i) 13 = 288 + 7 * i + 5 := by decide +kernel
  rcases isSt_cases h with rfl | rfl | ⟨i, hi, rfl⟩
  · rfl
  · rfl
  · unfold RF; rw [if_neg (by omega), if_neg (by omega), if_pos (by omega)]; exact k i hi
theorem RF_st_14 (σ : Sg) {s : Nat} (h : isSt s) : RF σ s 14 = s + 6 := by
  have k : ∀ i, i < 18 → RF0 (288 + 7 * i) 14 = 288 + 7 * i + 6 := by decide +kernel
  rcases isSt_cases h with rfl | rfl | ⟨i, hi, rfl⟩
  · rfl
  · rfl
  · unfold RF; rw [if_neg (by omega), if_neg (by omega), if_pos (by omega)]; exact k i hi
theorem L2 : (2 : Int32) = nI 2 := id rfl
theorem L3 : (3 : Int32) = nI 3 := id rfl
theorem L4 : (4 : Int32) = nI 4 := id rfl
theorem L5 : (5 : Int32) = nI 5 := id rfl
theorem L6 : (6 : Int32) = nI 6 := id rfl
theorem L7 : (7 : Int32) = nI 7 := id rfl
theorem L8 : (8 : Int32) = nI 8 := id rfl
theorem L9 : (9 : Int32) = nI 9 := id rfl
theorem L10 : (10 : Int32) = nI 10 := id rfl
theorem L11 : (11 : Int32) = nI 11 := id rfl
theorem L12 : (12 : Int32) = nI 12 := id rfl
theorem L13 : (13 : Int32) = nI 13 := id rfl
theorem L15 : (15 : Int32) = nI 15 := id rfl
theorem L16 : (16 : Int32) = nI 16 := id rfl
theorem L17 : (17 : Int32) = nI 17 := id rfl
theorem L18 : (18 : Int32) = nI 18 := id rfl
theorem L19 : (19 : Int32) = nI 19 := id rfl
theorem L20 : (20 : Int32) = nI 20 := id rfl
theorem L21 : (21 : Int32) = nI 21 := id rfl
theorem L24 : (24 : Int32) = nI 24 := id rfl
theorem L26 : (26 : Int32) = nI 26 := id rfl
theorem L31 : (31 : Int32) = nI 31 := id rfl
theorem L32 : (32 : Int32) = nI 32 := id rfl
theorem L33 : (33 : Int32) = nI 33 := id rfl
theorem L38 : (38 : Int32) = nI 38 := id rfl
theorem L40 : (40 : Int32) = nI 40 := id rfl
theorem L41 : (41 : Int32) = nI 41 := id rfl
theorem L44 : (44 : Int32) = nI 44 := id rfl
theorem L48 : (48 : Int32) = nI 48 := id rfl
theorem L51 : (51 : Int32) = nI 51 := id rfl
theorem L56 : (56 : Int32) = nI 56 := id rfl
theorem L57 : (57 : Int32) = nI 57 := id rfl
theorem L59 : (59 : Int32) = nI 59 := id rfl
theorem L61 : (61 : Int32) = nI 61 := id rfl
theorem L63 : (63 : Int32) = nI 63 := id rfl
theorem L64 : (64 : Int32) = nI 64 := id rfl
theorem L66 : (66 : Int32) = nI 66 := id rfl
theorem L72 : (72 : Int32) = nI 72 := id rfl
theorem L78 : (78 : Int32) = nI 78 := id rfl
theorem L83 : (83 : Int32) = nI 83 := id rfl
theorem L84 : (84 : Int32) = nI 84 := id rfl
theorem L96 : (96 : Int32) = nI 96 := id rfl
theorem L97 : (97 : Int32) = nI 97 := id rfl
theorem L100 : (100 : Int32) = nI 100 := id rfl
theorem L117 : (117 : Int32) = nI 117 := id rfl
theorem L122 : (122 : Int32) = nI 122 := id rfl
theorem L124 : (124 : Int32) = nI 124 := id rfl
theorem L127 : (127 : Int32) = nI 127 := id rfl
theorem L150 : (150 : Int32) = nI 150 := id rfl
theorem L166 : (166 : Int32) = nI 166 := id rfl
theorem L200 : (200 : Int32) = nI 200 := id rfl
theorem L255 : (255 : Int32) = nI 255 := id rfl
theorem L256 : (256 : Int32) = nI 256 := id rfl
theorem L257 : (257 : Int32) = nI 257 := id rfl
theorem L258 : (258 : Int32) = nI 258 := id rfl
theorem L259 : (259 : Int32) = nI 259 := id rfl
theorem L260 : (260 : Int32) = nI 260 := id rfl
theorem L261 : (261 : Int32) = nI 261 := id rfl
theorem L262 : (262 : Int32) = nI 262 := id rfl
theorem L263 : (263 : Int32) = nI 263 := id rfl
theorem L264 : (264 : Int32) = nI 264 := id rfl
theorem L265 : (265 : Int32) = nI 265 := id rfl
theorem L266 : (266 : Int32) = nI 266 := id rfl
theorem L300 : (300 : Int32) = nI 300 := id rfl
theorem L400 : (400 : Int32) = nI 400 := id rfl
theorem L480 : (480 : Int32) = nI 480 := id rfl
theorem L481 : (481 : Int32) = nI 481 := id rfl
theorem L490 : (490 : Int32) = nI 490 := id rfl
theorem L640 : (640 : Int32) = nI 640 := id rfl
theorem L900 : (900 : Int32) = nI 900 := id rfl
theorem L960 : (960 : Int32) = nI 960 := id rfl
theorem L999 : (999 : Int32) = nI 999 := id rfl
theorem L1328 : (1328 : Int32) = nI 1328 := id rfl
theorem L2304 : (2304 : Int32) = nI 2304 := id rfl
theorem L6561 : (6561 : Int32) = nI 6561 := id rfl
theorem L9999 : (9999 : Int32) = nI 9999 := id rfl
theorem L2147483647 : (2147483647 : Int32) = nI 2147483647 := id rfl
theorem i0 : (0 : Int32) = nI 0 := id rfl
theorem nI_sub {a b : Nat} (h : b ≤ a) : nI a - nI b = nI (a - b) := by
  obtain ⟨c, rfl⟩ : ∃ c, a = b + c := ⟨a - b, by omega⟩
  rw [show b + c - b = c by omega, ← nI_add, Int32.add_comm, Int32.add_sub_cancel]
theorem nI_s1 {a : Nat} (h : 1 ≤ a) : nI a - 1 = nI (a - 1) := nI_sub (b := 1) h
theorem nI_m1 {a : Nat} (h : 1 ≤ a) : nI a + (-1) = nI (a - 1) := by
  rw [← nI_s1 h, Int32.sub_eq_add_neg]
theorem nI_1' (a : Nat) : 1 + nI a = nI (1 + a) := nI_add 1 a
theorem lt_t {a b : Nat} (h : a < b) (hb : b < 2147483648) : (nI a < nI b) = True := eq_true (nI_lt h hb)
theorem lt_f {a b : Nat} (h : b ≤ a) (ha : a < 2147483648) : (nI a < nI b) = False := eq_false (nI_nlt h ha)
theorem lt_d {a b : Nat} (ha : a < 2147483648) (hb : b < 2147483648) : (nI a < nI b) = (a < b) := nI_lt' ha hb
theorem eq_d {a b : Nat} (ha : a < 2147483648) (hb : b < 2147483648) : (nI a = nI b) = (a = b) := nI_eq' ha hb
theorem lt0_f {a : Nat} (ha : a < 2147483648) : (nI a < 0) = False := nI_neg ha
theorem gt0_d {a : Nat} (ha : a < 2147483648) : (0 < nI a) = (0 < a) := nI_lt' (a := 0) (by omega) ha
theorem gt1_d {a : Nat} (ha : a < 2147483648) : (1 < nI a) = (1 < a) := nI_lt' (a := 1) (by omega) ha
theorem lt1_d {a : Nat} (ha : a < 2147483648) : (nI a < 1) = (a < 1) := nI_lt' (b := 1) ha (by omega)
theorem eq0_d {a : Nat} (ha : a < 2147483648) : (nI a = 0) = (a = 0) := nI_eq' (b := 0) ha (by omega)
theorem eq1_d {a : Nat} (ha : a < 2147483648) : (nI a = 1) = (a = 1) := nI_eq' (b := 1) ha (by omega)
theorem eqm1_d {a : Nat} (ha : a < 2147483648) : (nI a = -1) = False := by
  apply eq_false; intro h
  have := congrArg Int32.toInt h
  rw [nI_toInt ha] at this
  have h2 : (-1 : Int32).toInt = -1 := by decide
  omega
theorem m1_lt0 : ((-1 : Int32) < 0) = True := by decide
theorem bI0_d (b : Bool) : (bI b = 0) = (b = false) := propext bI_0
theorem bI1_d (b : Bool) : (bI b = 1) = (b = true) := propext bI_1
theorem aKd_50 : aKd 50 = true := id rfl
theorem aKd_51 : aKd 51 = true := id rfl
theorem aKd_80 : aKd 80 = true := id rfl
theorem aKd_81 : aKd 81 = true := id rfl
theorem aKd_65 : aKd 65 = true := id rfl
theorem aKd_70 : aKd 70 = true := id rfl
theorem nI_n0 : nI 0 = 0 := id rfl
theorem nI_n1 : nI 1 = 1 := id rfl
theorem shl1 {f : Nat} (h : f < 31) : (1 : Int32) <<< (nI f &&& 31) = nI (2 ^ f) := nx_shl1 f h
theorem shr_n {a f : Nat} (ha : a < 2147483648) (hf : f < 32) : nI a >>> (nI f &&& 31) = nI (a >>> f) := nx_shr ha hf
theorem min_d {a b : Nat} (ha : a < 2147483648) (hb : b < 2147483648) : mmin (nI a) (nI b) = nI (min a b) := by
  unfold mmin; rw [c_ltd hb ha, Nat.min_def]
  split <;> split <;> first | rfl | (congr 1; omega)
theorem max_d {a b : Nat} (ha : a < 2147483648) (hb : b < 2147483648) : mmax (nI a) (nI b) = nI (max a b) := by
  unfold mmax; rw [c_ltd ha hb, Nat.max_def]
  split <;> split <;> first | rfl | (congr 1; omega)
