/-! THE CLASS ALONE: the heap when the class has been made and the model has not -/
def S9SH (n a : Nat) : Nat × Nat := if a < 433 then SH n a else (0, 0)
def S9RF (σ : Sg) (a k : Nat) : Nat := if a < 433 then RF σ a k else 0
def S9hk (σ : Sg) (I : Nat → Nat → Int32) (L : Nat → Nat → Int64) : Hp := (S9SH (gN σ), I, L, S9RF σ, 433, 21403)
theorem S9SH_100 (n : Nat) : S9SH n 100 = (12, 18) := id rfl
theorem S9SH_101 (n : Nat) : S9SH n 101 = (8, 2) := id rfl
theorem S9SH_102 (n : Nat) : S9SH n 102 = (50, 480) := id rfl
theorem S9SH_103 (n : Nat) : S9SH n 103 = (9, 5) := id rfl
theorem S9SH_104 (n : Nat) : S9SH n 104 = (50, 481) := id rfl
theorem S9SH_105 (n : Nat) : S9SH n 105 = (50, 481) := id rfl
theorem S9SH_106 (n : Nat) : S9SH n 106 = (50, 481) := id rfl
theorem S9SH_107 (n : Nat) : S9SH n 107 = (50, 11) := id rfl
theorem S9SH_108 (n : Nat) : S9SH n 108 = (5, 7) := id rfl
theorem S9SH_109 (n : Nat) : S9SH n 109 = (51, 64) := id rfl
theorem S9SH_110 (n : Nat) : S9SH n 110 = (51, 64) := id rfl
theorem S9SH_111 (n : Nat) : S9SH n 111 = (51, 7) := id rfl
theorem S9SH_282 (n : Nat) : S9SH n 282 = (3, 9) := id rfl
theorem S9SH_283 (n : Nat) : S9SH n 283 = (11, 1) := id rfl
theorem S9SH_284 (n : Nat) : S9SH n 284 = (51, 4) := id rfl
theorem S9SH_285 (n : Nat) : S9SH n 285 = (1, 5) := id rfl
theorem S9SH_286 (n : Nat) : S9SH n 286 = (65, 16) := id rfl
theorem S9SH_287 (n : Nat) : S9SH n 287 = (65, 2) := id rfl
theorem S9SH_414 (n : Nat) : S9SH n 414 = (11, 1) := id rfl
theorem S9SH_415 (n : Nat) : S9SH n 415 = (51, 4) := id rfl
theorem S9SH_416 (n : Nat) : S9SH n 416 = (11, 1) := id rfl
theorem S9SH_417 (n : Nat) : S9SH n 417 = (51, 4) := id rfl
theorem S9SH_418 (n : Nat) : S9SH n 418 = (11, 1) := id rfl
theorem S9SH_419 (n : Nat) : S9SH n 419 = (51, 4) := id rfl
theorem S9SH_420 (n : Nat) : S9SH n 420 = (10, 5) := id rfl
theorem S9SH_421 (n : Nat) : S9SH n 421 = (50, 256) := id rfl
theorem S9SH_422 (n : Nat) : S9SH n 422 = (50, 256) := id rfl
theorem S9SH_423 (n : Nat) : S9SH n 423 = (50, 6561) := id rfl
theorem S9SH_424 (n : Nat) : S9SH n 424 = (50, 6561) := id rfl
theorem S9SH_425 (n : Nat) : S9SH n 425 = (4, 5) := id rfl
theorem S9SH_426 (n : Nat) : S9SH n 426 = (7, 6) := id rfl
theorem S9SH_427 (n : Nat) : S9SH n 427 = (50, 256) := id rfl
theorem S9SH_428 (n : Nat) : S9SH n 428 = (50, 256) := id rfl
theorem S9SH_429 (n : Nat) : S9SH n 429 = (50, 256) := id rfl
theorem S9SH_430 (n : Nat) : S9SH n 430 = (51, 256) := id rfl
theorem S9SH_431 (n : Nat) : S9SH n 431 = (50, 256) := id rfl
theorem S9SH_432 (n : Nat) : S9SH n 432 = (50, 8) := id rfl
theorem S9SH_1 (n : Nat) : S9SH n 1 = (80, n) := id rfl
theorem S9SH_2 (n : Nat) : S9SH n 2 = (81, 6) := id rfl
theorem S9SH_3 (n : Nat) : S9SH n 3 = (80, 9) := id rfl
theorem S9SH_la0 {n la : Nat} (h : isLa la) : S9SH n (la) = (2, 20) := by rcases h with rfl | rfl <;> rfl
theorem S9SH_la1 {n la : Nat} (h : isLa la) : S9SH n (la + 1) = (50, 8) := by rcases h with rfl | rfl <;> rfl
theorem S9SH_la3 {n la : Nat} (h : isLa la) : S9SH n (la + 3) = (50, 5) := by rcases h with rfl | rfl <;> rfl
theorem S9SH_la4 {n la : Nat} (h : isLa la) : S9SH n (la + 4) = (50, 6) := by rcases h with rfl | rfl <;> rfl
theorem S9SH_la5 {n la : Nat} (h : isLa la) : S9SH n (la + 5) = (50, 5) := by rcases h with rfl | rfl <;> rfl
theorem S9SH_la7 {n la : Nat} (h : isLa la) : S9SH n (la + 7) = (50, 960) := by rcases h with rfl | rfl <;> rfl
theorem S9SH_la8 {n la : Nat} (h : isLa la) : S9SH n (la + 8) = (50, 26) := by rcases h with rfl | rfl <;> rfl
theorem S9SH_la9 {n la : Nat} (h : isLa la) : S9SH n (la + 9) = (50, 26) := by rcases h with rfl | rfl <;> rfl
theorem S9SH_la10 {n la : Nat} (h : isLa la) : S9SH n (la + 10) = (50, 256) := by rcases h with rfl | rfl <;> rfl
theorem S9SH_la11 {n la : Nat} (h : isLa la) : S9SH n (la + 11) = (11, 1) := by rcases h with rfl | rfl <;> rfl
theorem S9SH_la12 {n la : Nat} (h : isLa la) : S9SH n (la + 12) = (51, 4) := by rcases h with rfl | rfl <;> rfl
theorem S9SH_la13 {n la : Nat} (h : isLa la) : S9SH n (la + 13) = (70, 31) := by rcases h with rfl | rfl <;> rfl
theorem S9SH_laT {n la i : Nat} (h : isLa la) (hi : i < 31) : S9SH n (la + 16 + 2 * i) = (11, 1) := by
  unfold S9SH
  have hla : la = 112 ∨ la = 190 := h
  rw [if_pos (by omega)]
  exact SH_laT h hi
theorem S9SH_laP {n la i : Nat} (h : isLa la) (hi : i < 31) : S9SH n (la + 17 + 2 * i) = (51, 4) := by
  unfold S9SH
  have hla : la = 112 ∨ la = 190 := h
  rw [if_pos (by omega)]
  exact SH_laP h hi
section EXEC
variable {ρ : Type} {σ : Sg} {I : Nat → Nat → Int32} {L : Nat → Nat → Int64}
theorem S9hpS_hk (a : Nat) : hpS (S9hk σ I L) a = S9SH (gN σ) a := id rfl
theorem S9hpI_hk (a k : Nat) : hpI (S9hk σ I L) a k = I a k := id rfl
theorem S9hpI_hk' (a : Nat) : hpI (S9hk σ I L) a = I a := id rfl
theorem S9hpL_hk (a k : Nat) : hpL (S9hk σ I L) a k = L a k := id rfl
theorem S9hpR_hk (a k : Nat) : hpR (S9hk σ I L) a k = S9RF σ a k := id rfl
theorem S9setI_hk (a : Nat) (r : Nat → Int32) : setI (S9hk σ I L) a r = S9hk σ (rowUp I a r) L := id rfl
theorem S9setL_hk (a : Nat) (r : Nat → Int64) : setL (S9hk σ I L) a r = S9hk σ I (rowUp L a r) := id rfl
theorem S9upI_hk (a k : Nat) (x : Int32) : upI (S9hk σ I L) a k x = S9hk σ (rowUp I a (updA (I a) k x)) L := upI_set _ a k x
theorem S9upL_hk (a k : Nat) (x : Int64) : upL (S9hk σ I L) a k x = S9hk σ I (rowUp L a (updA (L a) k x)) := upL_set _ a k x
theorem S9gI_b (c k a : Nat) (f : Int32 → Option ρ) : (gI c k a (S9hk σ I L)).bind f = if (S9SH (gN σ) a).1 = c + 1 then f (I a k) else none := by
  unfold gI; rw [S9hpS_hk]; split <;> rfl
theorem S9gL_b (c k a : Nat) (f : Int64 → Option ρ) : (gL c k a (S9hk σ I L)).bind f = if (S9SH (gN σ) a).1 = c + 1 then f (L a k) else none := by
  unfold gL; rw [S9hpS_hk]; split <;> rfl
theorem S9gR_b (c k a : Nat) (f : Nat → Option ρ) : (gR c k a (S9hk σ I L)).bind f = if (S9SH (gN σ) a).1 = c + 1 then f (S9RF σ a k) else none := by
  unfold gR; rw [S9hpS_hk]; split <;> rfl
theorem S9sI_b (c k a : Nat) (x : Int32) (f : Hp → Option ρ) : (sI c k a x (S9hk σ I L)).bind f = if (S9SH (gN σ) a).1 = c + 1 then f (S9hk σ (rowUp I a (updA (I a) k x)) L) else none := by
  unfold sI; rw [S9hpS_hk]; split
  · rw [S9upI_hk]; rfl
  · rfl
theorem S9sZ_b (c k a : Nat) (x : Int32) (f : Hp → Option ρ) : (sZ c k a x (S9hk σ I L)).bind f = if (S9SH (gN σ) a).1 = c + 1 ∧ (x = 0 ∨ x = 1) then f (S9hk σ (rowUp I a (updA (I a) k x)) L) else none := by
  unfold sZ; rw [S9hpS_hk]; split
  · rw [S9upI_hk]; rfl
  · rfl
theorem S9sL_b (c k a : Nat) (x : Int64) (f : Hp → Option ρ) : (sL c k a x (S9hk σ I L)).bind f = if (S9SH (gN σ) a).1 = c + 1 then f (S9hk σ I (rowUp L a (updA (L a) k x))) else none := by
  unfold sL; rw [S9hpS_hk]; split
  · rw [S9upL_hk]; rfl
  · rfl
theorem S9aLen_b (a : Nat) (f : Int32 → Option ρ) : (aLen a (S9hk σ I L)).bind f = if aKd (S9SH (gN σ) a).1 = true then f (nI (S9SH (gN σ) a).2) else none := by
  unfold aLen; rw [S9hpS_hk]; split <;> rfl
theorem S9ldI_b (a : Nat) (i : Int32) (f : Int32 → Option ρ) : (ldI a i (S9hk σ I L)).bind f = if kI (S9SH (gN σ) a) i = true then f (I a (ixN i)) else none := by
  unfold ldI kI; rw [S9hpS_hk, S9hpI_hk]; split <;> rename_i h <;> simp [h]
theorem S9ldL_b (a : Nat) (i : Int32) (f : Int64 → Option ρ) : (ldL a i (S9hk σ I L)).bind f = if kL (S9SH (gN σ) a) i = true then f (L a (ixN i)) else none := by
  unfold ldL kL; rw [S9hpS_hk, S9hpL_hk]; split <;> rename_i h <;> simp [h]
theorem S9ldZ_b (a : Nat) (i : Int32) (f : Int32 → Option ρ) : (ldZ a i (S9hk σ I L)).bind f = if kS 52 (S9SH (gN σ) a) i = true then f (I a (ixN i)) else none := by
  unfold ldZ kS; rw [S9hpS_hk, S9hpI_hk]; split <;> rename_i h <;> simp [h]
theorem S9ldR_b (c a : Nat) (i : Int32) (f : Nat → Option ρ) : (ldR c a i (S9hk σ I L)).bind f = if kS (60 + c) (S9SH (gN σ) a) i = true then f (S9RF σ a (ixN i)) else none := by
  unfold ldR kS; rw [S9hpS_hk, S9hpR_hk]; split <;> rename_i h <;> simp [h]
theorem S9stI_b (a : Nat) (i x : Int32) (f : Hp → Option ρ) : (stI a i x (S9hk σ I L)).bind f = if kS 50 (S9SH (gN σ) a) i = true then f (S9hk σ (rowUp I a (updA (I a) (ixN i) x)) L) else none := by
  unfold stI kS; rw [S9hpS_hk, S9upI_hk]; split <;> rename_i h <;> simp [h]
theorem S9stL_b (a : Nat) (i : Int32) (x : Int64) (f : Hp → Option ρ) : (stL a i x (S9hk σ I L)).bind f = if kS 51 (S9SH (gN σ) a) i = true then f (S9hk σ I (rowUp L a (updA (L a) (ixN i) x))) else none := by
  unfold stL kS; rw [S9hpS_hk, S9upL_hk]; split <;> rename_i h <;> simp [h]
theorem S9stZ_b (a : Nat) (i x : Int32) (f : Hp → Option ρ) : (stZ a i x (S9hk σ I L)).bind f = if kS 52 (S9SH (gN σ) a) i = true ∧ (x = 0 ∨ x = 1) then f (S9hk σ (rowUp I a (updA (I a) (ixN i) x)) L) else none := by
  unfold stZ kS; rw [S9hpS_hk, S9upI_hk]; split <;> rename_i h <;> simp [h]
theorem S9at_e (a : Nat) (i : Int32) (h : (S9SH (gN σ) a).1 = 50) (hn : (S9SH (gN σ) a).2 < 2147483648) : mX11_at a i (S9hk σ I L) = some (atV (S9SH (gN σ) a).2 (I a) i) := by
  have hs : hpS (S9hk σ I L) a = (50, (S9SH (gN σ) a).2) := by rw [S9hpS_hk]; exact Prod.ext h rfl
  rcases ix_cases i with hi | ⟨j, hj, rfl⟩
  · rw [at_neg hi]; unfold atV; rw [neg_inB hi]; rfl
  · rw [at_nI hs hn hj]; unfold atV; rw [inB_nI hj, ixN_nI hj]; simp [S9hpI_hk]
theorem S9put_e (a : Nat) (i v : Int32) (h : (S9SH (gN σ) a).1 = 50) (hn : (S9SH (gN σ) a).2 < 2147483648) : mX11_put a i v (S9hk σ I L) = some (S9hk σ (rowUp I a (putV (S9SH (gN σ) a).2 (I a) i v)) L) := by
  have hs : hpS (S9hk σ I L) a = (50, (S9SH (gN σ) a).2) := by rw [S9hpS_hk]; exact Prod.ext h rfl
  rcases ix_cases i with hi | ⟨j, hj, rfl⟩
  · unfold mX11_put; rw [if_pos hi]; unfold putV; rw [neg_inB hi, if_neg (by decide), rowUp_id]
  · by_cases hb : j < (S9SH (gN σ) a).2
    · rw [put_nI hs hn hb, putV_n _ _ hb hn]; rfl
    · rw [put_out hs hn (by omega) hj]; unfold putV; rw [inB_nI hj, if_neg (by simpa using hb), rowUp_id]
theorem S9longAt_e (a : Nat) (i : Int32) (h : (S9SH (gN σ) a).1 = 51) (hn : (S9SH (gN σ) a).2 < 2147483648) : mX11_longAt a i (S9hk σ I L) = some (laV (S9SH (gN σ) a).2 (L a) i) := by
  have hs : hpS (S9hk σ I L) a = (51, (S9SH (gN σ) a).2) := by rw [S9hpS_hk]; exact Prod.ext h rfl
  rcases ix_cases i with hi | ⟨j, hj, rfl⟩
  · unfold mX11_longAt; rw [if_pos hi]; unfold laV; rw [neg_inB hi]; rfl
  · rw [longAt_nI hs hn hj]; unfold laV; rw [inB_nI hj, ixN_nI hj]; simp [S9hpL_hk]
theorem S9putLong_e (a : Nat) (i : Int32) (v : Int64) (h : (S9SH (gN σ) a).1 = 51) (hn : (S9SH (gN σ) a).2 < 2147483648) : mX11_putLong a i v (S9hk σ I L) = some (S9hk σ I (rowUp L a (plV (S9SH (gN σ) a).2 (L a) i v))) := by
  have hs : hpS (S9hk σ I L) a = (51, (S9SH (gN σ) a).2) := by rw [S9hpS_hk]; exact Prod.ext h rfl
  rcases ix_cases i with hi | ⟨j, hj, rfl⟩
  · unfold mX11_putLong; rw [if_pos hi]; unfold plV; rw [neg_inB hi, if_neg (by decide), rowUp_id]
  · by_cases hb : j < (S9SH (gN σ) a).2
    · rw [putLong_nI hs hn hb, plV_n _ _ hb hn]; rfl
    · unfold mX11_putLong
      rw [if_neg (nI_pos hj), aLen_ok hs rfl, Option.bind_some, c_nlt (by omega) hj]
      unfold plV; rw [inB_nI hj, if_neg (by simpa using hb), rowUp_id]
theorem S9at_b (a : Nat) (i : Int32) (f : Int32 → Option ρ) : (mX11_at a i (S9hk σ I L)).bind f = if k50 (S9SH (gN σ) a) = true then f (atV (S9SH (gN σ) a).2 (I a) i) else (atO a i (S9hk σ I L)).bind f := by
  split
  · rename_i h; unfold k50 at h; rw [S9at_e a i (of_decide_eq_true h).1 (of_decide_eq_true h).2]; rfl
  · rfl
theorem S9put_b (a : Nat) (i v : Int32) (f : Hp → Option ρ) : (mX11_put a i v (S9hk σ I L)).bind f = if k50 (S9SH (gN σ) a) = true then f (S9hk σ (rowUp I a (putV (S9SH (gN σ) a).2 (I a) i v)) L) else (putO a i v (S9hk σ I L)).bind f := by
  split
  · rename_i h; unfold k50 at h; rw [S9put_e a i v (of_decide_eq_true h).1 (of_decide_eq_true h).2]; rfl
  · rfl
theorem S9longAt_b (a : Nat) (i : Int32) (f : Int64 → Option ρ) : (mX11_longAt a i (S9hk σ I L)).bind f = if k51 (S9SH (gN σ) a) = true then f (laV (S9SH (gN σ) a).2 (L a) i) else (laO a i (S9hk σ I L)).bind f := by
  split
  · rename_i h; unfold k51 at h; rw [S9longAt_e a i (of_decide_eq_true h).1 (of_decide_eq_true h).2]; rfl
  · rfl
theorem S9putLong_b (a : Nat) (i : Int32) (v : Int64) (f : Hp → Option ρ) : (mX11_putLong a i v (S9hk σ I L)).bind f = if k51 (S9SH (gN σ) a) = true then f (S9hk σ I (rowUp L a (plV (S9SH (gN σ) a).2 (L a) i v))) else (plO a i v (S9hk σ I L)).bind f := by
  split
  · rename_i h; unfold k51 at h; rw [S9putLong_e a i v (of_decide_eq_true h).1 (of_decide_eq_true h).2]; rfl
  · rfl
end EXEC
theorem S9RF_100_0 (σ : Sg) : S9RF σ 100 0 = 101 := id rfl
theorem S9RF_100_1 (σ : Sg) : S9RF σ 100 1 = 103 := id rfl
theorem S9RF_100_2 (σ : Sg) : S9RF σ 100 2 = 108 := id rfl
theorem S9RF_100_3 (σ : Sg) : S9RF σ 100 3 = gla σ := id rfl
theorem S9RF_100_4 (σ : Sg) : S9RF σ 100 4 = glb σ := id rfl
theorem S9RF_100_5 (σ : Sg) : S9RF σ 100 5 = gsa σ := id rfl
theorem S9RF_100_6 (σ : Sg) : S9RF σ 100 6 = gsb σ := id rfl
theorem S9RF_100_7 (σ : Sg) : S9RF σ 100 7 = 282 := id rfl
theorem S9RF_100_8 (σ : Sg) : S9RF σ 100 8 = 285 := id rfl
theorem S9RF_100_9 (σ : Sg) : S9RF σ 100 9 = 414 := id rfl
theorem S9RF_100_10 (σ : Sg) : S9RF σ 100 10 = 416 := id rfl
theorem S9RF_100_11 (σ : Sg) : S9RF σ 100 11 = 418 := id rfl
theorem S9RF_100_12 (σ : Sg) : S9RF σ 100 12 = 420 := id rfl
theorem S9RF_100_13 (σ : Sg) : S9RF σ 100 13 = 425 := id rfl
theorem S9RF_100_14 (σ : Sg) : S9RF σ 100 14 = 426 := id rfl
theorem S9RF_100_15 (σ : Sg) : S9RF σ 100 15 = 432 := id rfl
theorem S9RF_282_0 (σ : Sg) : S9RF σ 282 0 = 103 := id rfl
theorem S9RF_282_1 (σ : Sg) : S9RF σ 282 1 = 108 := id rfl
theorem S9RF_282_2 (σ : Sg) : S9RF σ 282 2 = 283 := id rfl
theorem S9RF_282_3 (σ : Sg) : S9RF σ 282 3 = gpl σ := id rfl
theorem S9RF_282_4 (σ : Sg) : S9RF σ 282 4 = gps σ := id rfl
theorem S9RF_101_0 (σ : Sg) : S9RF σ 101 0 = 102 := id rfl
theorem S9RF_103_0 (σ : Sg) : S9RF σ 103 0 = 104 := id rfl
theorem S9RF_103_1 (σ : Sg) : S9RF σ 103 1 = 105 := id rfl
theorem S9RF_103_2 (σ : Sg) : S9RF σ 103 2 = 106 := id rfl
theorem S9RF_103_3 (σ : Sg) : S9RF σ 103 3 = 107 := id rfl
theorem S9RF_108_0 (σ : Sg) : S9RF σ 108 0 = 109 := id rfl
theorem S9RF_108_1 (σ : Sg) : S9RF σ 108 1 = 110 := id rfl
theorem S9RF_108_2 (σ : Sg) : S9RF σ 108 2 = 111 := id rfl
theorem S9RF_283_0 (σ : Sg) : S9RF σ 283 0 = 284 := id rfl
theorem S9RF_285_0 (σ : Sg) : S9RF σ 285 0 = 286 := id rfl
theorem S9RF_285_1 (σ : Sg) : S9RF σ 285 1 = 287 := id rfl
theorem S9RF_414_0 (σ : Sg) : S9RF σ 414 0 = 415 := id rfl
theorem S9RF_416_0 (σ : Sg) : S9RF σ 416 0 = 417 := id rfl
theorem S9RF_418_0 (σ : Sg) : S9RF σ 418 0 = 419 := id rfl
theorem S9RF_420_0 (σ : Sg) : S9RF σ 420 0 = 421 := id rfl
theorem S9RF_420_1 (σ : Sg) : S9RF σ 420 1 = 422 := id rfl
theorem S9RF_420_2 (σ : Sg) : S9RF σ 420 2 = 423 := id rfl
theorem S9RF_420_3 (σ : Sg) : S9RF σ 420 3 = 424 := id rfl
theorem S9RF_426_0 (σ : Sg) : S9RF σ 426 0 = 427 := id rfl
theorem S9RF_426_1 (σ : Sg) : S9RF σ 426 1 = 428 := id rfl
theorem S9RF_426_2 (σ : Sg) : S9RF σ 426 2 = 429 := id rfl
theorem S9RF_426_3 (σ : Sg) : S9RF σ 426 3 = 430 := id rfl
theorem S9RF_426_4 (σ : Sg) : S9RF σ 426 4 = 431 := id rfl
theorem S9RF_la_6 (σ : Sg) {la : Nat} (h : isLa la) : S9RF σ la 6 = la + 1 := by rcases h with rfl | rfl <;> rfl
theorem S9RF_la_8 (σ : Sg) {la : Nat} (h : isLa la) : S9RF σ la 8 = la + 3 := by rcases h with rfl | rfl <;> rfl
theorem S9RF_la_9 (σ : Sg) {la : Nat} (h : isLa la) : S9RF σ la 9 = la + 4 := by rcases h with rfl | rfl <;> rfl
theorem S9RF_la_10 (σ : Sg) {la : Nat} (h : isLa la) : S9RF σ la 10 = la + 5 := by rcases h with rfl | rfl <;> rfl
theorem S9RF_la_12 (σ : Sg) {la : Nat} (h : isLa la) : S9RF σ la 12 = la + 7 := by rcases h with rfl | rfl <;> rfl
theorem S9RF_la_14 (σ : Sg) {la : Nat} (h : isLa la) : S9RF σ la 14 = la + 8 := by rcases h with rfl | rfl <;> rfl
theorem S9RF_la_15 (σ : Sg) {la : Nat} (h : isLa la) : S9RF σ la 15 = la + 9 := by rcases h with rfl | rfl <;> rfl
theorem S9RF_la_16 (σ : Sg) {la : Nat} (h : isLa la) : S9RF σ la 16 = la + 10 := by rcases h with rfl | rfl <;> rfl
theorem S9RF_la_17 (σ : Sg) {la : Nat} (h : isLa la) : S9RF σ la 17 = la + 11 := by rcases h with rfl | rfl <;> rfl
theorem S9RF_la_18 (σ : Sg) {la : Nat} (h : isLa la) : S9RF σ la 18 = la + 13 := by rcases h with rfl | rfl <;> rfl
theorem S9RF_la11 (σ : Sg) {la : Nat} (h : isLa la) : S9RF σ (la + 11) 0 = la + 12 := by rcases h with rfl | rfl <;> rfl
theorem S9RF_laT (σ : Sg) {la i : Nat} (h : isLa la) (hi : i < 31) : S9RF σ (la + 13) i = la + 16 + 2 * i := by
  unfold S9RF
  have hla : la = 112 ∨ la = 190 := h
  rw [if_pos (by omega)]
  exact RF_laT σ h hi
theorem S9RF_laP (σ : Sg) {la i : Nat} (h : isLa la) (hi : i < 31) : S9RF σ (la + 16 + 2 * i) 0 = la + 17 + 2 * i := by
  unfold S9RF
  have hla : la = 112 ∨ la = 190 := h
  rw [if_pos (by omega)]
  exact RF_laP σ h hi
theorem S9soIn_ok {σ : Sg} {I : Nat → Nat → Int32} {L : Nat → Nat → Int64} (hS : SOk L) {f i : Nat} (hf : f < 8) (hi : i < 4) : mX10_soIn (nI f) (nI i) (S9hk σ I L) = some (soV f i) := by
  have h2 : hpS (S9hk σ I L) 2 = (81, 6) := rfl
  have e : ∀ f i, f < 8 → 6 ≤ f → i < 4 → mX10_soIn_b18 (nI f) (nI i) (S9hk σ I L) = some (soV f i) := by
    intro f i hf h6 hi
    unfold mX10_soIn_b18
    rw [aLen_ok h2 rfl, Option.bind_some, nI_sub h6]
    have k : ∀ f, f < 8 → 6 ≤ f → ∀ i, i < 4 → (if ((nI i >>> (nI (f - 6) &&& 31)) &&& (1 : Int32)) = 0 then some (0 : Int64) else some (-1 : Int64)) = some (soV f i) := by decide +kernel
    exact k f hf h6 i hi
  unfold mX10_soIn
  rw [if_neg (nI_pos (by omega)), aLen_ok h2 rfl, Option.bind_some]
  by_cases h6 : f < 6
  · rw [c_lt h6 (by omega), ldL_ro h2 h6 (by omega), Option.bind_some, S9hpL_hk, hS f h6]
    unfold soV; rw [if_pos h6]
  · rw [c_nlt (by omega) (by omega)]; exact e f i hf (by omega) hi
theorem S9isW_hk {σ : Sg} {I : Nat → Nat → Int32} {L : Nat → Nat → Int64} {a p : Nat} (h1 : (S9SH (gN σ) a).1 = 11) (h2 : S9RF σ a 0 = p) (h3 : S9SH (gN σ) p = (51, 4)) : isW (S9hk σ I L) a p := ⟨h1, h2, h3⟩
theorem S9agree_ok {σ : Sg} {I : Nat → Nat → Int32} {L : Nat → Nat → Int64} (hS : SOk L) {a p : Nat} {f : Nat → Bool} (hw : isW (S9hk σ I L) a p) (hp : p ≠ 2) (hf : Rw (L p) f) (x y : Int32) :
    ∃ r, mX10_agree a x y (S9hk σ I L) = some (S9hk σ I (rowUp L p r)) ∧ Rw r (fun w => f w && agN x y w 8) := by
  have hw' : ∀ r, isW (S9hk σ I (rowUp L p r)) a p := fun r => hw
  have inner : ∀ g, g < 8 → ∀ r, bt x g = true → mX10_agree_l11 a x y (nI g) 0 (S9hk σ I (rowUp L p r)) = some (.inl (nI (g + 1), S9hk σ I (rowUp L p (fun k => if k < 4 then r k &&& agM y g k else r k)))) := by
    intro g hg r hb
    unfold mX10_agree_l11
    have key := lp_traj (f := fun s : Int32 × Hp => mX10_agree_l11f a x y (nI g) s.1 s.2) 4 (fun i => (nI i, S9hk σ I (rowUp L p (fun k => if k < i then r k &&& agM y g k else r k)))) (.inl (nI (g + 1), S9hk σ I (rowUp L p (fun k => if k < 4 then r k &&& agM y g k else r k)))) (fun i hi => ?_) ?_
    · have e0 : (fun k => if k < 0 then r k &&& agM y g k else r k) = r := by funext k; rw [if_neg (by omega)]
      rw [e0] at key
      exact key
    · show mX10_agree_l11f a x y (nI g) (nI i) _ = _
      unfold mX10_agree_l11f mX10_agree_b64
      have hS2 : ∀ r, SOk (rowUp L p r) := fun r k S9hk => by rw [rowUp_at, if_neg (by omega)]; exact hS k S9hk
      rw [(hw' _).g, Option.bind_some, (hw' _).len, Option.bind_some, c_lt hi (by omega), has_b, hasI_b x (by omega), hb, if_neg (by decide), Option.bind_some, ldL_ok (hw' _).2.2 hi (by omega), Option.bind_some, has_b, hasI_b y (by omega), S9soIn_ok (hS2 _) hg hi]
      simp only [Option.bind_some, stL_ok (hw' _).2.2 hi (by omega : 4 < 2147483648), nI_1]
      have fin : ∀ v : Int64, v = r i &&& agM y g i → setL (S9hk σ I (rowUp L p (fun k => if k < i then r k &&& agM y g k else r k))) p (updA (hpL (S9hk σ I (rowUp L p (fun k => if k < i then r k &&& agM y g k else r k))) p) i v) = S9hk σ I (rowUp L p (fun k => if k < i + 1 then r k &&& agM y g k else r k)) := by
        intro v hv
        rw [S9setL_hk, rowUp_two]
        congr 2
        funext k
        rw [updA_at, S9hpL_hk, rowUp_same]
        by_cases h1 : k = i
        · subst h1; rw [if_pos rfl, if_pos (by omega), hv]
        · rw [if_neg h1]
          by_cases h2 : k < i
          · rw [if_pos h2, if_pos (by omega)]
          · rw [if_neg h2, if_neg (by omega)]
      have rd : hpL (S9hk σ I (rowUp L p (fun k => if k < i then r k &&& agM y g k else r k))) p i = r i := by
        rw [S9hpL_hk, rowUp_same, if_neg (by omega)]
      cases hy : bt y g with
      | false =>
        rw [show bI false = 0 from rfl, if_pos rfl, rd, fin _ (by unfold agM; rw [hy]; rfl)]
      | true =>
        rw [show bI true = 1 from rfl, if_neg (by decide), rd, fin _ (by unfold agM; rw [hy]; rfl)]
    · show mX10_agree_l11f a x y (nI g) (nI 4) _ = _
      unfold mX10_agree_l11f mX10_agree_b72
      rw [(hw' _).g, Option.bind_some, (hw' _).len, Option.bind_some, c_nlt (Nat.le_refl _) (by omega), xt_some, nI_1]
  have innerN : ∀ g, g < 8 → ∀ r, bt x g = false → mX10_agree_l11 a x y (nI g) 0 (S9hk σ I (rowUp L p r)) = some (.inl (nI (g + 1), S9hk σ I (rowUp L p r))) := by
    intro g hg r hb
    unfold mX10_agree_l11
    refine lp_inr ?_
    show mX10_agree_l11f a x y (nI g) (nI 0) _ = _
    unfold mX10_agree_l11f mX10_agree_b72
    rw [(hw' _).g, Option.bind_some, (hw' _).len, Option.bind_some, c_lt (by omega) (by omega), has_b, hasI_b x (by omega), hb, if_pos (show bI false = 0 from rfl), nI_1]; rfl
  unfold mX10_agree mX10_agree_l2
  rw [if_pos hw.1]
  have h0 : S9hk σ I L = S9hk σ I (rowUp L p (L p)) := by rw [rowUp_id]
  rw [h0]
  have key := lp_inv (f := fun s : Int32 × Hp => mX10_agree_l2f a x y s.1 s.2) 8 (fun i s => ∃ r, s = (nI i, S9hk σ I (rowUp L p r)) ∧ Rw r (fun w => f w && agN x y w i)) (fun h' => ∃ r, h' = S9hk σ I (rowUp L p r) ∧ Rw r (fun w => f w && agN x y w 8))
    (fun i s hi hQ => by
      obtain ⟨r, rfl, hr⟩ := hQ
      show ∃ t, mX10_agree_l2f a x y (nI i) _ = some (.inl t) ∧ _
      unfold mX10_agree_l2f
      rw [show (8 : Int32) = nI 8 from rfl, c_lt hi (by omega)]
      cases hb : bt x i with
      | false =>
        refine ⟨_, innerN i hi r hb, r, rfl, fun w hw => ?_⟩
        rw [hr w hw]; simp [agN, allB, hb]
      | true =>
        refine ⟨_, inner i hi r hb, _, rfl, ?_⟩
        refine wv_fill fun q hq j hj => ?_
        rw [i64_and, hr.bit hq hj]
        unfold agM
        have hs := soV_bit i hi q hq j hj
        cases hy : bt y i with
        | false => rw [if_neg (by decide), i64_not _ hj, hs]; simp only [agN, allB, hb, hy]; cases f (64 * q + j) <;> cases (64 * q + j).testBit i <;> simp
        | true => rw [if_pos rfl, hs]; simp only [agN, allB, hb, hy]; cases f (64 * q + j) <;> cases (64 * q + j).testBit i <;> simp)
    (fun s hQ => by
      obtain ⟨r, rfl, hr⟩ := hQ
      refine ⟨_, ?_, r, rfl, hr⟩
      show mX10_agree_l2f a x y (nI 8) _ = _
      unfold mX10_agree_l2f
      rw [show (8 : Int32) = nI 8 from rfl, c_nlt (Nat.le_refl _) (by omega)]; rfl)
    (s := (nI 0, S9hk σ I (rowUp L p (L p)))) ⟨_, rfl, fun w hw => by rw [hf w hw]; simp [agN, allB]⟩
  obtain ⟨h', e, r, rfl, hr⟩ := key
  exact ⟨r, e, hr⟩
theorem S9keepFirst_ok {σ : Sg} {I : Nat → Nat → Int32} {L : Nat → Nat → Int64} (hS : SOk L) {a p n : Nat} {f : Nat → Bool} (hw : isW (S9hk σ I L) a p) (hp : p ≠ 2) (hf : Rw (L p) f) (hn : n ≤ 8) :
    ∃ r, mX10_keepFirst a (nI n) (S9hk σ I L) = some (S9hk σ I (rowUp L p r)) ∧ Rw r (fun w => f w && decide (w < 2 ^ n)) := by
  obtain ⟨r, e, hr⟩ := S9agree_ok hS hw hp hf ((-1 : Int32) <<< (nI n &&& 31)) 0
  refine ⟨r, ?_, fun w hw => ?_⟩
  · unfold mX10_keepFirst
    rw [if_pos hw.1, e]; rfl
  · rw [hr w hw]
    have k : ∀ n, n < 9 → ∀ w, w < 256 → agN ((-1 : Int32) <<< (nI n &&& 31)) 0 w 8 = decide (w < 2 ^ n) := by decide +kernel
    show (f w && agN _ _ w 8) = (f w && decide _)
    rw [k n (by omega) w hw]
section SEER
variable {σ : Sg} {I : Nat → Nat → Int32} {L : Nat → Nat → Int64}
def S9sHk (σ : Sg) (I : Nat → Nat → Int32) (L : Nat → Nat → Int64) (hh : Nat → Int32) (y n z : Nat → Int64) : Hp := S9hk σ (rowUp I 108 hh) (rowUp (rowUp (rowUp L 109 y) 110 n) 111 z)
theorem S9replace_ok {hh : Nat → Int32} {y n z : Nat → Int64} {h t : Nat} (Y N : Int64) (hh3 : hh 3 = nI h) (ht : t ≤ h) (h64 : h - t < 64) (h31 : h < 1000) :
    mX4_replace 108 (nI t) Y N (S9sHk σ I L hh y n z) = some (S9sHk σ I L (updA hh 3 (nI (h - t + 1))) (updA y (h - t) Y) (updA n (h - t) N) z) := by
  unfold mX4_replace mX4_replace_b62 S9sHk
  simp (disch := first | assumption | omega) only [↓S9gI_b, ↓S9gL_b, ↓S9gR_b, ↓S9sI_b, ↓S9sZ_b, ↓S9sL_b, ↓S9aLen_b, ↓S9ldI_b, ↓S9ldL_b, ↓S9ldZ_b, ↓S9ldR_b, ↓S9stI_b, ↓S9stL_b, ↓S9stZ_b, ↓S9at_b, ↓S9put_b, ↓S9longAt_b, ↓S9putLong_b, ↓has_b, ↓mhas_b, ↓needSlot_b, ↓reduceIte, S9hpS_hk, kI_50, kI_80, kL_51, kL_81, kS_ok, kI_0, kI_1, kL_0, kS_0, kS_1, ixN_n, ixN_0, ixN_1, k50_ok, k51_ok, rowUp_at, updAt, rowUp_two, updA_two, Nat.add_zero, atV_n, laV_n, atV_0, laV_0, putV_n, plV_n, hasI_n, obind, b2s, xts, eq_self, Nat.reduceAdd, Nat.reduceEqDiff, Nat.reduceMul, Nat.reduceLT, Nat.reduceSub, nI_1, nI_add, pk_mul, nI_sub, nI_s1, nI_m1, lt_t, lt_f, lt0_f, eq0_d, eq1_d, gt0_d, lt_d, eq_d, bI0_d, bI1_d, if_pos, if_neg, true_and, and_true, true_or, or_true, aKd_50, aKd_51, aKd_80, aKd_81, aKd_65, aKd_70, z01_b, z01_e, z01_0, z01_1, S9SH_100, S9SH_101, S9SH_102, S9SH_103, S9SH_104, S9SH_105, S9SH_106, S9SH_107, S9SH_108, S9SH_109, S9SH_110, S9SH_111, S9SH_282, S9SH_283, S9SH_284, S9SH_285, S9SH_286, S9SH_287, S9SH_414, S9SH_415, S9SH_416, S9SH_417, S9SH_418, S9SH_419, S9SH_420, S9SH_421, S9SH_422, S9SH_423, S9SH_424, S9SH_425, S9SH_426, S9SH_427, S9SH_428, S9SH_429, S9SH_430, S9SH_431, S9SH_432, SH_433, SH_434, SH_435, SH_436, SH_437, SH_438, SH_439, SH_440, SH_441, SH_442, SH_443, SH_444, SH_445, SH_446, SH_447, SH_448, SH_449, SH_450, SH_451, SH_452, SH_453, SH_454, S9SH_1, S9SH_2, S9SH_3, S9RF_100_0, S9RF_100_1, S9RF_100_2, S9RF_100_3, S9RF_100_4, S9RF_100_5, S9RF_100_6, S9RF_100_7, S9RF_100_8, S9RF_100_9, S9RF_100_10, S9RF_100_11, S9RF_100_12, S9RF_100_13, S9RF_100_14, S9RF_100_15, S9RF_282_0, S9RF_282_1, S9RF_282_2, S9RF_282_3, S9RF_282_4, S9RF_101_0, S9RF_103_0, S9RF_103_1, S9RF_103_2, S9RF_103_3, S9RF_108_0, S9RF_108_1, S9RF_108_2, S9RF_283_0, S9RF_285_0, S9RF_285_1, S9RF_414_0, S9RF_416_0, S9RF_418_0, S9RF_420_0, S9RF_420_1, S9RF_420_2, S9RF_420_3, S9RF_426_0, S9RF_426_1, S9RF_426_2, S9RF_426_3, S9RF_426_4, hh3] <;> try simp (disch := omega) only [rowUp_sw, rowUp_two, updA_two, Nat.add_zero]
theorem S9top_ok {hh : Nat → Int32} {y n z : Nat → Int64} {h t : Nat} (hh3 : hh 3 = nI h) (ht : t + 1 ≤ h) (h64 : h ≤ 64) (row : Nat) (hr : row = 109 ∨ row = 110) :
    mX4_top 108 row (nI t) (S9sHk σ I L hh y n z) = some ((if row = 109 then y else n) (h - 1 - t)) := by
  unfold mX4_top S9sHk
  rcases hr with rfl | rfl <;> simp (disch := first | assumption | omega) only [↓S9gI_b, ↓S9gL_b, ↓S9gR_b, ↓S9sI_b, ↓S9sZ_b, ↓S9sL_b, ↓S9aLen_b, ↓S9ldI_b, ↓S9ldL_b, ↓S9ldZ_b, ↓S9ldR_b, ↓S9stI_b, ↓S9stL_b, ↓S9stZ_b, ↓S9at_b, ↓S9put_b, ↓S9longAt_b, ↓S9putLong_b, ↓has_b, ↓mhas_b, ↓needSlot_b, ↓reduceIte, S9hpS_hk, kI_50, kI_80, kL_51, kL_81, kS_ok, kI_0, kI_1, kL_0, kS_0, kS_1, ixN_n, ixN_0, ixN_1, k50_ok, k51_ok, rowUp_at, updAt, rowUp_two, updA_two, Nat.add_zero, atV_n, laV_n, atV_0, laV_0, putV_n, plV_n, hasI_n, obind, b2s, xts, eq_self, Nat.reduceAdd, Nat.reduceEqDiff, Nat.reduceMul, Nat.reduceLT, Nat.reduceSub, nI_1, nI_add, pk_mul, nI_sub, nI_s1, nI_m1, lt_t, lt_f, lt0_f, eq0_d, eq1_d, gt0_d, lt_d, eq_d, bI0_d, bI1_d, if_pos, if_neg, true_and, and_true, true_or, or_true, aKd_50, aKd_51, aKd_80, aKd_81, aKd_65, aKd_70, z01_b, z01_e, z01_0, z01_1, S9SH_100, S9SH_101, S9SH_102, S9SH_103, S9SH_104, S9SH_105, S9SH_106, S9SH_107, S9SH_108, S9SH_109, S9SH_110, S9SH_111, S9SH_282, S9SH_283, S9SH_284, S9SH_285, S9SH_286, S9SH_287, S9SH_414, S9SH_415, S9SH_416, S9SH_417, S9SH_418, S9SH_419, S9SH_420, S9SH_421, S9SH_422, S9SH_423, S9SH_424, S9SH_425, S9SH_426, S9SH_427, S9SH_428, S9SH_429, S9SH_430, S9SH_431, S9SH_432, SH_433, SH_434, SH_435, SH_436, SH_437, SH_438, SH_439, SH_440, SH_441, SH_442, SH_443, SH_444, SH_445, SH_446, SH_447, SH_448, SH_449, SH_450, SH_451, SH_452, SH_453, SH_454, S9SH_1, S9SH_2, S9SH_3, S9RF_100_0, S9RF_100_1, S9RF_100_2, S9RF_100_3, S9RF_100_4, S9RF_100_5, S9RF_100_6, S9RF_100_7, S9RF_100_8, S9RF_100_9, S9RF_100_10, S9RF_100_11, S9RF_100_12, S9RF_100_13, S9RF_100_14, S9RF_100_15, S9RF_282_0, S9RF_282_1, S9RF_282_2, S9RF_282_3, S9RF_282_4, S9RF_101_0, S9RF_103_0, S9RF_103_1, S9RF_103_2, S9RF_103_3, S9RF_108_0, S9RF_108_1, S9RF_108_2, S9RF_283_0, S9RF_285_0, S9RF_285_1, S9RF_414_0, S9RF_416_0, S9RF_418_0, S9RF_420_0, S9RF_420_1, S9RF_420_2, S9RF_420_3, S9RF_426_0, S9RF_426_1, S9RF_426_2, S9RF_426_3, S9RF_426_4, hh3] <;> try simp (disch := omega) only [rowUp_sw, rowUp_two, updA_two, Nat.add_zero]
theorem S9top0_ok {hh : Nat → Int32} {y n z : Nat → Int64} {h : Nat} (hh3 : hh 3 = nI h) (ht : 1 ≤ h) (h64 : h ≤ 64) (row : Nat) (hr : row = 109 ∨ row = 110) :
    mX4_top 108 row 0 (S9sHk σ I L hh y n z) = some ((if row = 109 then y else n) (h - 1)) := S9top_ok (t := 0) hh3 ht h64 row hr
theorem S9top1_ok {hh : Nat → Int32} {y n z : Nat → Int64} {h : Nat} (hh3 : hh 3 = nI h) (ht : 2 ≤ h) (h64 : h ≤ 64) (row : Nat) (hr : row = 109 ∨ row = 110) :
    mX4_top 108 row 1 (S9sHk σ I L hh y n z) = some ((if row = 109 then y else n) (h - 2)) := by
  have := S9top_ok (σ := σ) (I := I) (L := L) (y := y) (n := n) (z := z) (t := 1) hh3 ht h64 row hr
  rw [show h - 1 - 1 = h - 2 by omega] at this
  exact this
theorem S9atLeast_in {hh : Nat → Int32} {y n z : Nat → Int64} (x1 : Int32) (x2 : Nat) (x3 : Int32) (i : Nat) (one : Int64) :
    mX4_atLeast_l80 108 x1 x2 x3 (nI i) one (nI 6) (S9sHk σ I L hh y n z) = some (.inl (nI (i + 1), S9sHk σ I L hh y n (zS z one 6))) := by
  unfold mX4_atLeast_l80
  have key := lp_traj (f := fun s : Int32 × Hp => mX4_atLeast_l80f 108 x1 x2 x3 (nI i) one s.1 s.2) 6 (fun s => (nI (6 - s), S9sHk σ I L hh y n (zS z one s))) (.inl (nI (i + 1), S9sHk σ I L hh y n (zS z one 6))) (fun s hs => ?_) ?_
  · have e0 : zS z one 0 = z := by funext t; unfold zS; rw [if_neg (by omega)]
    rw [e0] at key; exact key
  · show mX4_atLeast_l80f 108 x1 x2 x3 (nI i) one (nI (6 - s)) _ = _
    have e1 : zS z one (s + 1) = updA (zS z one s) (6 - s) (z (6 - s) ||| (z (6 - s - 1) &&& one)) := by
      funext t; unfold zS; rw [updA_at]
      by_cases h1 : t = 6 - s
      · subst h1; rw [if_pos (by omega), if_pos rfl]
      · rw [if_neg h1]
        by_cases h2 : 6 - s < t ∧ t ≤ 6
        · rw [if_pos h2, if_pos (by omega)]
        · rw [if_neg h2, if_neg (by omega)]
    have e2 : zS z one s (6 - s) = z (6 - s) := by unfold zS; rw [if_neg (by omega)]
    have e3 : zS z one s (6 - s - 1) = z (6 - s - 1) := by unfold zS; rw [if_neg (by omega)]
    rw [e1]
    unfold mX4_atLeast_l80f S9sHk
    rw [show 6 - (s + 1) = 6 - s - 1 by omega]
    simp (disch := first | assumption | omega) only [↓S9gI_b, ↓S9gL_b, ↓S9gR_b, ↓S9sI_b, ↓S9sZ_b, ↓S9sL_b, ↓S9aLen_b, ↓S9ldI_b, ↓S9ldL_b, ↓S9ldZ_b, ↓S9ldR_b, ↓S9stI_b, ↓S9stL_b, ↓S9stZ_b, ↓S9at_b, ↓S9put_b, ↓S9longAt_b, ↓S9putLong_b, ↓has_b, ↓mhas_b, ↓needSlot_b, ↓reduceIte, S9hpS_hk, kI_50, kI_80, kL_51, kL_81, kS_ok, kI_0, kI_1, kL_0, kS_0, kS_1, ixN_n, ixN_0, ixN_1, k50_ok, k51_ok, rowUp_at, updAt, rowUp_two, updA_two, Nat.add_zero, atV_n, laV_n, atV_0, laV_0, putV_n, plV_n, hasI_n, obind, b2s, xts, eq_self, Nat.reduceAdd, Nat.reduceEqDiff, Nat.reduceMul, Nat.reduceLT, Nat.reduceSub, nI_1, nI_add, pk_mul, nI_sub, nI_s1, nI_m1, lt_t, lt_f, lt0_f, eq0_d, eq1_d, gt0_d, lt_d, eq_d, bI0_d, bI1_d, if_pos, if_neg, true_and, and_true, true_or, or_true, aKd_50, aKd_51, aKd_80, aKd_81, aKd_65, aKd_70, z01_b, z01_e, z01_0, z01_1, S9SH_100, S9SH_101, S9SH_102, S9SH_103, S9SH_104, S9SH_105, S9SH_106, S9SH_107, S9SH_108, S9SH_109, S9SH_110, S9SH_111, S9SH_282, S9SH_283, S9SH_284, S9SH_285, S9SH_286, S9SH_287, S9SH_414, S9SH_415, S9SH_416, S9SH_417, S9SH_418, S9SH_419, S9SH_420, S9SH_421, S9SH_422, S9SH_423, S9SH_424, S9SH_425, S9SH_426, S9SH_427, S9SH_428, S9SH_429, S9SH_430, S9SH_431, S9SH_432, SH_433, SH_434, SH_435, SH_436, SH_437, SH_438, SH_439, SH_440, SH_441, SH_442, SH_443, SH_444, SH_445, SH_446, SH_447, SH_448, SH_449, SH_450, SH_451, SH_452, SH_453, SH_454, S9SH_1, S9SH_2, S9SH_3, S9RF_100_0, S9RF_100_1, S9RF_100_2, S9RF_100_3, S9RF_100_4, S9RF_100_5, S9RF_100_6, S9RF_100_7, S9RF_100_8, S9RF_100_9, S9RF_100_10, S9RF_100_11, S9RF_100_12, S9RF_100_13, S9RF_100_14, S9RF_100_15, S9RF_282_0, S9RF_282_1, S9RF_282_2, S9RF_282_3, S9RF_282_4, S9RF_101_0, S9RF_103_0, S9RF_103_1, S9RF_103_2, S9RF_103_3, S9RF_108_0, S9RF_108_1, S9RF_108_2, S9RF_283_0, S9RF_285_0, S9RF_285_1, S9RF_414_0, S9RF_416_0, S9RF_418_0, S9RF_420_0, S9RF_420_1, S9RF_420_2, S9RF_420_3, S9RF_426_0, S9RF_426_1, S9RF_426_2, S9RF_426_3, S9RF_426_4, e2, e3] <;> try simp (disch := omega) only [rowUp_sw, rowUp_two, updA_two, Nat.add_zero]
  · show mX4_atLeast_l80f 108 x1 x2 x3 (nI i) one (nI (6 - 6)) _ = _
    unfold mX4_atLeast_l80f
    rw [if_neg (by decide), nI_1]; rfl
theorem S9atLeast_ok {hh : Nat → Int32} {y n z : Nat → Int64} {h m : Nat} (k : Int32) (hh3 : hh 3 = nI h) (hm : m ≤ 6) (hmh : m ≤ h) (h64 : h ≤ 64) (row : Nat) (hr : row = 109 ∨ row = 110) :
    ∃ V z', mX4_atLeast 108 k row (nI m) (S9sHk σ I L hh y n z) = some (V, S9sHk σ I L hh y n z') ∧ ∀ j, j < 64 → lb V j = decide (k.toInt ≤ cntB (fun i => lb ((if row = 109 then y else n) (h - m + i)) j) m) := by
  have hS : (hpS (S9sHk σ I L hh y n z) 108).1 = 5 := rfl
  by_cases S9hk : 0 < k
  · obtain ⟨q, hq, rfl⟩ := nI_of (x := k) (fun hn => by
      have h1 := Int32.lt_iff_toInt_lt.mp S9hk; have h2 := Int32.lt_iff_toInt_lt.mp hn; omega)
    rw [nI_toInt hq]
    have hq0 : 0 < q := by
      rcases Nat.eq_zero_or_pos q with e | e
      · subst e; exact absurd S9hk (by decide)
      · exact e
    by_cases hmq : m < q
    · refine ⟨0, z, ?_, fun j hj => ?_⟩
      · unfold mX4_atLeast
        rw [if_pos hS, if_pos S9hk, c_lt hmq hq]
      · have := cntB_le (fun i => lb ((if row = 109 then y else n) (h - m + i)) j) m
        rw [decide_eq_false (by omega)]; exact i64_0 j
    · have init : mX4_atLeast_l18 108 (nI q) row (nI m) 0 (S9sHk σ I L hh y n z) = mX4_atLeast_l56 108 (nI q) row (nI m) 0 (S9sHk σ I L hh y n (zT (if row = 109 then y else n) h z 0)) := by
        unfold mX4_atLeast_l18
        have step : ∀ i, i < 7 → mX4_atLeast_l18f 108 (nI q) row (nI m) (nI i) (S9sHk σ I L hh y n (fun t => if t < i then (if t = 0 then -1 else 0) else z t)) = some (.inl (nI (i + 1), S9sHk σ I L hh y n (fun t => if t < i + 1 then (if t = 0 then -1 else 0) else z t))) := by
          intro i hi
          have e1 : (fun t => if t < i + 1 then (if t = 0 then (-1 : Int64) else 0) else z t) = updA (fun t => if t < i then (if t = 0 then (-1 : Int64) else 0) else z t) i (if i = 0 then -1 else 0) := by
            funext t; rw [updA_at]
            by_cases h1 : t = i
            · subst h1; rw [if_pos (by omega), if_pos rfl]
            · rw [if_neg h1]
              by_cases h2 : t < i
              · rw [if_pos h2, if_pos (by omega)]
              · rw [if_neg h2, if_neg (by omega)]
          rw [e1]
          unfold mX4_atLeast_l18f mX4_atLeast_b46 S9sHk
          by_cases h0 : i = 0
          · subst h0; simp (disch := first | assumption | omega) only [↓S9gI_b, ↓S9gL_b, ↓S9gR_b, ↓S9sI_b, ↓S9sZ_b, ↓S9sL_b, ↓S9aLen_b, ↓S9ldI_b, ↓S9ldL_b, ↓S9ldZ_b, ↓S9ldR_b, ↓S9stI_b, ↓S9stL_b, ↓S9stZ_b, ↓S9at_b, ↓S9put_b, ↓S9longAt_b, ↓S9putLong_b, ↓has_b, ↓mhas_b, ↓needSlot_b, ↓reduceIte, S9hpS_hk, kI_50, kI_80, kL_51, kL_81, kS_ok, kI_0, kI_1, kL_0, kS_0, kS_1, ixN_n, ixN_0, ixN_1, k50_ok, k51_ok, rowUp_at, updAt, rowUp_two, updA_two, Nat.add_zero, atV_n, laV_n, atV_0, laV_0, putV_n, plV_n, hasI_n, obind, b2s, xts, eq_self, Nat.reduceAdd, Nat.reduceEqDiff, Nat.reduceMul, Nat.reduceLT, Nat.reduceSub, nI_1, nI_add, pk_mul, nI_sub, nI_s1, nI_m1, lt_t, lt_f, lt0_f, eq0_d, eq1_d, gt0_d, lt_d, eq_d, bI0_d, bI1_d, if_pos, if_neg, true_and, and_true, true_or, or_true, aKd_50, aKd_51, aKd_80, aKd_81, aKd_65, aKd_70, z01_b, z01_e, z01_0, z01_1, S9SH_100, S9SH_101, S9SH_102, S9SH_103, S9SH_104, S9SH_105, S9SH_106, S9SH_107, S9SH_108, S9SH_109, S9SH_110, S9SH_111, S9SH_282, S9SH_283, S9SH_284, S9SH_285, S9SH_286, S9SH_287, S9SH_414, S9SH_415, S9SH_416, S9SH_417, S9SH_418, S9SH_419, S9SH_420, S9SH_421, S9SH_422, S9SH_423, S9SH_424, S9SH_425, S9SH_426, S9SH_427, S9SH_428, S9SH_429, S9SH_430, S9SH_431, S9SH_432, SH_433, SH_434, SH_435, SH_436, SH_437, SH_438, SH_439, SH_440, SH_441, SH_442, SH_443, SH_444, SH_445, SH_446, SH_447, SH_448, SH_449, SH_450, SH_451, SH_452, SH_453, SH_454, S9SH_1, S9SH_2, S9SH_3, S9RF_100_0, S9RF_100_1, S9RF_100_2, S9RF_100_3, S9RF_100_4, S9RF_100_5, S9RF_100_6, S9RF_100_7, S9RF_100_8, S9RF_100_9, S9RF_100_10, S9RF_100_11, S9RF_100_12, S9RF_100_13, S9RF_100_14, S9RF_100_15, S9RF_282_0, S9RF_282_1, S9RF_282_2, S9RF_282_3, S9RF_282_4, S9RF_101_0, S9RF_103_0, S9RF_103_1, S9RF_103_2, S9RF_103_3, S9RF_108_0, S9RF_108_1, S9RF_108_2, S9RF_283_0, S9RF_285_0, S9RF_285_1, S9RF_414_0, S9RF_416_0, S9RF_418_0, S9RF_420_0, S9RF_420_1, S9RF_420_2, S9RF_420_3, S9RF_426_0, S9RF_426_1, S9RF_426_2, S9RF_426_3, S9RF_426_4] <;> try simp (disch := omega) only [rowUp_sw, rowUp_two, updA_two, Nat.add_zero]
          · simp (disch := first | assumption | omega) only [↓S9gI_b, ↓S9gL_b, ↓S9gR_b, ↓S9sI_b, ↓S9sZ_b, ↓S9sL_b, ↓S9aLen_b, ↓S9ldI_b, ↓S9ldL_b, ↓S9ldZ_b, ↓S9ldR_b, ↓S9stI_b, ↓S9stL_b, ↓S9stZ_b, ↓S9at_b, ↓S9put_b, ↓S9longAt_b, ↓S9putLong_b, ↓has_b, ↓mhas_b, ↓needSlot_b, ↓reduceIte, S9hpS_hk, kI_50, kI_80, kL_51, kL_81, kS_ok, kI_0, kI_1, kL_0, kS_0, kS_1, ixN_n, ixN_0, ixN_1, k50_ok, k51_ok, rowUp_at, updAt, rowUp_two, updA_two, Nat.add_zero, atV_n, laV_n, atV_0, laV_0, putV_n, plV_n, hasI_n, obind, b2s, xts, eq_self, Nat.reduceAdd, Nat.reduceEqDiff, Nat.reduceMul, Nat.reduceLT, Nat.reduceSub, nI_1, nI_add, pk_mul, nI_sub, nI_s1, nI_m1, lt_t, lt_f, lt0_f, eq0_d, eq1_d, gt0_d, lt_d, eq_d, bI0_d, bI1_d, if_pos, if_neg, true_and, and_true, true_or, or_true, aKd_50, aKd_51, aKd_80, aKd_81, aKd_65, aKd_70, z01_b, z01_e, z01_0, z01_1, S9SH_100, S9SH_101, S9SH_102, S9SH_103, S9SH_104, S9SH_105, S9SH_106, S9SH_107, S9SH_108, S9SH_109, S9SH_110, S9SH_111, S9SH_282, S9SH_283, S9SH_284, S9SH_285, S9SH_286, S9SH_287, S9SH_414, S9SH_415, S9SH_416, S9SH_417, S9SH_418, S9SH_419, S9SH_420, S9SH_421, S9SH_422, S9SH_423, S9SH_424, S9SH_425, S9SH_426, S9SH_427, S9SH_428, S9SH_429, S9SH_430, S9SH_431, S9SH_432, SH_433, SH_434, SH_435, SH_436, SH_437, SH_438, SH_439, SH_440, SH_441, SH_442, SH_443, SH_444, SH_445, SH_446, SH_447, SH_448, SH_449, SH_450, SH_451, SH_452, SH_453, SH_454, S9SH_1, S9SH_2, S9SH_3, S9RF_100_0, S9RF_100_1, S9RF_100_2, S9RF_100_3, S9RF_100_4, S9RF_100_5, S9RF_100_6, S9RF_100_7, S9RF_100_8, S9RF_100_9, S9RF_100_10, S9RF_100_11, S9RF_100_12, S9RF_100_13, S9RF_100_14, S9RF_100_15, S9RF_282_0, S9RF_282_1, S9RF_282_2, S9RF_282_3, S9RF_282_4, S9RF_101_0, S9RF_103_0, S9RF_103_1, S9RF_103_2, S9RF_103_3, S9RF_108_0, S9RF_108_1, S9RF_108_2, S9RF_283_0, S9RF_285_0, S9RF_285_1, S9RF_414_0, S9RF_416_0, S9RF_418_0, S9RF_420_0, S9RF_420_1, S9RF_420_2, S9RF_420_3, S9RF_426_0, S9RF_426_1, S9RF_426_2, S9RF_426_3, S9RF_426_4, h0, if_false] <;> try simp (disch := omega) only [rowUp_sw, rowUp_two, updA_two, Nat.add_zero]
        have go : ∀ d i, i + d = 7 → lp (fun s : Int32 × Hp => mX4_atLeast_l18f 108 (nI q) row (nI m) s.1 s.2) (nI i, S9sHk σ I L hh y n (fun t => if t < i then (if t = 0 then -1 else 0) else z t)) = mX4_atLeast_l56 108 (nI q) row (nI m) 0 (S9sHk σ I L hh y n (zT (if row = 109 then y else n) h z 0)) := by
          intro d
          induction d with
          | zero =>
            intro i hi
            have : i = 7 := by omega
            subst this
            refine lp_xt ?_
            show mX4_atLeast_l18f 108 (nI q) row (nI m) (nI 7) (S9sHk σ I L hh y n (fun t => if t < 7 then (if t = 0 then -1 else 0) else z t)) = _
            unfold mX4_atLeast_l18f
            rw [show gR 4 2 108 (S9sHk σ I L hh y n (fun t => if t < 7 then (if t = 0 then -1 else 0) else z t)) = some 111 from rfl, Option.bind_some, show aLen 111 (S9sHk σ I L hh y n (fun t => if t < 7 then (if t = 0 then -1 else 0) else z t)) = some (nI 7) from rfl, Option.bind_some, if_neg (by decide)]
            rfl
          | succ d ih =>
            intro i hi
            rw [lp_inl (step i (by omega))]
            exact ih (i + 1) (by omega)
        have := go 7 0 (by omega)
        have e0 : (fun t => if t < 0 then (if t = 0 then (-1 : Int64) else 0) else z t) = z := by funext t; rw [if_neg (by omega)]
        rw [e0] at this
        exact this
      refine ⟨zT (if row = 109 then y else n) h z m q, zT (if row = 109 then y else n) h z m, ?_, fun j hj => ?_⟩
      · unfold mX4_atLeast
        rw [if_pos hS, if_pos S9hk, c_nlt (i := m) (n := q) (by omega) (by omega), init]
        unfold mX4_atLeast_l56
        refine lp_traj (f := fun s : Int32 × Hp => mX4_atLeast_l56f 108 (nI q) row (nI m) s.1 s.2) m (fun i => (nI i, S9sHk σ I L hh y n (zT (if row = 109 then y else n) h z i))) _ (fun i hi => ?_) ?_
        · show mX4_atLeast_l56f 108 (nI q) row (nI m) (nI i) _ = _
          unfold mX4_atLeast_l56f
          rw [c_lt hi (by omega), S9top_ok hh3 (by omega) h64 row hr, Option.bind_some]
          have e7 : aLen 111 (S9sHk σ I L hh y n (zT (if row = 109 then y else n) h z i)) = some (nI 7) := rfl
          rw [show gR 4 2 108 (S9sHk σ I L hh y n (zT (if row = 109 then y else n) h z i)) = some 111 from rfl, Option.bind_some, e7, Option.bind_some, nI_s1 (by omega)]
          exact S9atLeast_in _ _ _ _ _
        · show mX4_atLeast_l56f 108 (nI q) row (nI m) (nI m) _ = _
          unfold mX4_atLeast_l56f
          rw [c_nlt (Nat.le_refl _) (by omega)]
          unfold S9sHk
          simp (disch := first | assumption | omega) only [↓S9gI_b, ↓S9gL_b, ↓S9gR_b, ↓S9sI_b, ↓S9sZ_b, ↓S9sL_b, ↓S9aLen_b, ↓S9ldI_b, ↓S9ldL_b, ↓S9ldZ_b, ↓S9ldR_b, ↓S9stI_b, ↓S9stL_b, ↓S9stZ_b, ↓S9at_b, ↓S9put_b, ↓S9longAt_b, ↓S9putLong_b, ↓has_b, ↓mhas_b, ↓needSlot_b, ↓reduceIte, S9hpS_hk, kI_50, kI_80, kL_51, kL_81, kS_ok, kI_0, kI_1, kL_0, kS_0, kS_1, ixN_n, ixN_0, ixN_1, k50_ok, k51_ok, rowUp_at, updAt, rowUp_two, updA_two, Nat.add_zero, atV_n, laV_n, atV_0, laV_0, putV_n, plV_n, hasI_n, obind, b2s, xts, eq_self, Nat.reduceAdd, Nat.reduceEqDiff, Nat.reduceMul, Nat.reduceLT, Nat.reduceSub, nI_1, nI_add, pk_mul, nI_sub, nI_s1, nI_m1, lt_t, lt_f, lt0_f, eq0_d, eq1_d, gt0_d, lt_d, eq_d, bI0_d, bI1_d, if_pos, if_neg, true_and, and_true, true_or, or_true, aKd_50, aKd_51, aKd_80, aKd_81, aKd_65, aKd_70, z01_b, z01_e, z01_0, z01_1, S9SH_100, S9SH_101, S9SH_102, S9SH_103, S9SH_104, S9SH_105, S9SH_106, S9SH_107, S9SH_108, S9SH_109, S9SH_110, S9SH_111, S9SH_282, S9SH_283, S9SH_284, S9SH_285, S9SH_286, S9SH_287, S9SH_414, S9SH_415, S9SH_416, S9SH_417, S9SH_418, S9SH_419, S9SH_420, S9SH_421, S9SH_422, S9SH_423, S9SH_424, S9SH_425, S9SH_426, S9SH_427, S9SH_428, S9SH_429, S9SH_430, S9SH_431, S9SH_432, SH_433, SH_434, SH_435, SH_436, SH_437, SH_438, SH_439, SH_440, SH_441, SH_442, SH_443, SH_444, SH_445, SH_446, SH_447, SH_448, SH_449, SH_450, SH_451, SH_452, SH_453, SH_454, S9SH_1, S9SH_2, S9SH_3, S9RF_100_0, S9RF_100_1, S9RF_100_2, S9RF_100_3, S9RF_100_4, S9RF_100_5, S9RF_100_6, S9RF_100_7, S9RF_100_8, S9RF_100_9, S9RF_100_10, S9RF_100_11, S9RF_100_12, S9RF_100_13, S9RF_100_14, S9RF_100_15, S9RF_282_0, S9RF_282_1, S9RF_282_2, S9RF_282_3, S9RF_282_4, S9RF_101_0, S9RF_103_0, S9RF_103_1, S9RF_103_2, S9RF_103_3, S9RF_108_0, S9RF_108_1, S9RF_108_2, S9RF_283_0, S9RF_285_0, S9RF_285_1, S9RF_414_0, S9RF_416_0, S9RF_418_0, S9RF_420_0, S9RF_420_1, S9RF_420_2, S9RF_420_3, S9RF_426_0, S9RF_426_1, S9RF_426_2, S9RF_426_3, S9RF_426_4] <;> try simp (disch := omega) only [rowUp_sw, rowUp_two, updA_two, Nat.add_zero]
      · rw [zT_bit _ _ _ _ hj m q (by omega)]
        have e : cntB (fun t => lb ((if row = 109 then y else n) (h - 1 - t)) j) m = cntB (fun i => lb ((if row = 109 then y else n) (h - m + i)) j) m := by
          rw [← cntB_rev (fun i => lb ((if row = 109 then y else n) (h - m + i)) j) m]
          apply cntB_congr
          intro t ht
          show lb ((if row = 109 then y else n) (h - 1 - t)) j = lb ((if row = 109 then y else n) (h - m + (m - 1 - t))) j
          rw [show h - 1 - t = h - m + (m - 1 - t) by omega]
        rw [e]
        simp
  · refine ⟨-1, z, ?_, fun j hj => ?_⟩
    · unfold mX4_atLeast
      rw [if_pos hS, if_neg S9hk]
    · have h1 : ¬ (0 : Int) < k.toInt := fun h => S9hk (Int32.lt_iff_toInt_lt.mpr h)
      rw [decide_eq_true (by omega)]; exact i64_m1 hj
theorem S9gS0 {ρ : Type} {hh : Nat → Int32} {y n z : Nat → Int64} (f : Nat → Option ρ) : (gR 4 0 108 (S9sHk σ I L hh y n z)).bind f = f 109 := rfl
theorem S9gS1 {ρ : Type} {hh : Nat → Int32} {y n z : Nat → Int64} (f : Nat → Option ρ) : (gR 4 1 108 (S9sHk σ I L hh y n z)).bind f = f 110 := rfl
theorem S9run_step {hh : Nat → Int32} {y n z : Nat → Int64} (ca : Nat) (hca : S9SH (gN σ) ca = (50, 960)) (hc8 : ca ≠ 108) (c b s h : Nat) (hc : I ca s = nI (cc c)) (hs : s < b) (hb : b ≤ 960)
    (qy qn : Nat → Int64) (hq : ∀ f, f < 8 → mX4_leafYes 108 (nI f) (S9sHk σ I L hh y n z) = some (qy f) ∧ mX4_leafNo 108 (nI f) (S9sHk σ I L hh y n z) = some (qn f))
    (hh3 : hh 3 = nI h) (hok' : hok c h = true) (h60 : h ≤ 60) (v : Nat → VP) (hr : relS y n h v) :
    ∃ hh' y' n' z', mX4_run_l20f 108 ca (nI b) (nI s) (S9sHk σ I L hh y n z) = some (.inl (nI (s + 1), S9sHk σ I L hh' y' n' z')) ∧ hh' 3 = nI (hst c h) ∧ (hh' 4 = hh 4 ∧ hh' 5 = hh 5 ∧ hh' 6 = hh 6) ∧ relS y' n' (hst c h) (fun j => (stp (lq qy qn j) c (h, v j)).2) := by
  have pre : ∀ K : Int32 → Option ((Int32 × Hp) ⊕ Hp), (if nI s < 0 then xt (some (S9sHk σ I L hh y n z)) else if nI s < nI b then (aLen ca (S9sHk σ I L hh y n z)).bind fun v5 => if nI s < v5 then (ldI ca (nI s) (S9sHk σ I L hh y n z)).bind K else xt (some (S9sHk σ I L hh y n z)) else xt (some (S9sHk σ I L hh y n z))) = K (nI (cc c)) := by
    intro K
    have hS : hpS (S9sHk σ I L hh y n z) ca = (50, 960) := hca
    rw [if_neg (nI_pos (by omega)), c_lt hs (by omega), aLen_ok hS rfl, Option.bind_some, c_lt (by omega) (by omega), ldI_ok hS (by omega) (by omega), Option.bind_some]
    have : hpI (S9sHk σ I L hh y n z) ca s = I ca s := by
      show rowUp I 108 hh ca s = _
      rw [rowUp_at, if_neg hc8]
    rw [this, hc]
  have upd : ∀ (k : Nat) (Y N : Int64) (V : Nat → Bool × Bool), (∀ j, j < 64 → (lb Y j, lb N j) = V j) → ∀ i, (i = k ∨ i < h) → ∀ j, j < 64 → lb (updA y k Y i) j = (updA (v j) k (V j) i).1 ∧ lb (updA n k N i) j = (updA (v j) k (V j) i).2 := by
    intro k Y N V hV i hi j hj
    rw [updA_at, updA_at, updA_at]
    by_cases e : i = k
    · rw [if_pos e, if_pos e, if_pos e, ← hV j hj]; exact ⟨rfl, rfl⟩
    · rw [if_neg e, if_neg e, if_neg e]; exact hr i (by omega) j hj
  unfold mX4_run_l20f
  simp only [mX4_run_b264]
  rw [pre]
  unfold hok at hok'
  by_cases k0 : c / 100 = 0
  · rw [if_pos k0] at hok'
    have hf := of_decide_eq_true hok'
    have ec : cc c = c % 100 := by unfold cc; rw [if_pos k0]
    have es : hst c h = h + 1 := by unfold hst; rw [if_pos k0]
    refine ⟨updA hh 3 (nI (h - 0 + 1)), updA y (h - 0) (qy (c % 100)), updA n (h - 0) (qn (c % 100)), z, ?_, ?_, ⟨rfl, rfl, rfl⟩, ?_⟩
    · rw [ec, if_pos (show nI (c % 100) < (8 : Int32) from nI_lt (b := 8) hf.1 (by omega)), (hq _ hf.1).1, Option.bind_some, (hq _ hf.1).2, Option.bind_some]
      rw [show (0 : Int32) = nI 0 from rfl, S9replace_ok _ _ hh3 (by omega) (by omega) (by omega), Option.bind_some, nI_1]
    · rw [es]; rfl
    · rw [es]
      intro i hi j hj
      have e : (stp (lq qy qn j) c (h, v j)).2 = updA (v j) h (lq qy qn j (c % 100)) := by unfold stp; rw [if_pos k0]
      simp only [e]
      exact upd h _ _ (fun j => lq qy qn j (c % 100)) (fun j hj => rfl) i (by omega) j hj
  · rw [if_neg k0] at hok'
    by_cases k1 : c / 100 = 1
    · rw [if_pos k1] at hok'
      have hf := of_decide_eq_true hok'
      have ec : cc c = 8 := by unfold cc; rw [if_neg k0, if_pos k1]
      have es : hst c h = h := by unfold hst; rw [if_neg k0, if_pos k1]
      refine ⟨updA hh 3 (nI (h - 1 + 1)), updA y (h - 1) (n (h - 1)), updA n (h - 1) (y (h - 1)), z, ?_, ?_, ⟨rfl, rfl, rfl⟩, ?_⟩
      · rw [ec, if_neg (by decide), if_pos (by rfl), S9gS1, S9top0_ok hh3 (by omega) (by omega) 110 t10, Option.bind_some, S9gS0, S9top0_ok hh3 (by omega) (by omega) 109 t09, Option.bind_some, if_neg (by decide), if_pos rfl]
        rw [show (1 : Int32) = nI 1 from rfl, S9replace_ok _ _ hh3 (by omega) (by omega) (by omega), Option.bind_some, nI_add]
      · rw [es]; show nI (h - 1 + 1) = nI h; congr 1; omega
      · rw [es]
        intro i hi j hj
        have e : (stp (lq qy qn j) c (h, v j)).2 = updA (v j) (h - 1) ((v j (h - 1)).2, (v j (h - 1)).1) := by unfold stp; rw [if_neg k0, if_pos k1]
        simp only [e]
        exact upd (h - 1) _ _ (fun j => ((v j (h - 1)).2, (v j (h - 1)).1)) (fun j hj => by rw [(hr (h - 1) (by omega) j hj).1, (hr (h - 1) (by omega) j hj).2]) i (by omega) j hj
    · rw [if_neg k1] at hok'
      by_cases k4 : c / 100 = 4
      · rw [if_pos k4] at hok'
        have hf := of_decide_eq_true hok'
        have ec : cc c = 16 + 8 * (c / 10 % 10) + c % 10 := by unfold cc; rw [if_neg k0, if_neg k1, if_pos k4]
        have es : hst c h = h - c % 10 + 1 := by unfold hst; rw [if_neg k0, if_neg k1, if_pos k4]
        obtain ⟨o1, o2⟩ := ofC (l := c / 10 % 10) (m := c % 10) (by omega) (by omega)
        obtain ⟨V1, z1, a1, b1⟩ := S9atLeast_ok (σ := σ) (I := I) (L := L) (y := y) (n := n) (z := z) (m := c % 10) (nI (c / 10 % 10)) hh3 (by omega) (by omega) (by omega) 109 t09
        obtain ⟨V2, z2, a2, b2'⟩ := S9atLeast_ok (σ := σ) (I := I) (L := L) (y := y) (n := n) (z := z1) (m := c % 10) ((nI (c % 10) - nI (c / 10 % 10)) + 1) hh3 (by omega) (by omega) (by omega) 110 t10
        refine ⟨updA hh 3 (nI (h - c % 10 + 1)), updA y (h - c % 10) V1, updA n (h - c % 10) V2, z2, ?_, ?_, ⟨rfl, rfl, rfl⟩, ?_⟩
        · have q8 : ∀ q : Nat, 16 ≤ q → q < 1000 → ¬ nI q < 8 ∧ ¬ nI q = 8 ∧ ¬ nI q = 9 ∧ ¬ nI q = 10 := fun q h1 h2 => ⟨nI_nlt (b := 8) (by omega) (by omega), fun e => by have := (nI_eq (b := 8) (by omega) (by omega)).mp e; omega, fun e => by have := (nI_eq (b := 9) (by omega) (by omega)).mp e; omega, fun e => by have := (nI_eq (b := 10) (by omega) (by omega)).mp e; omega⟩
          have q9 := q8 (16 + 8 * (c / 10 % 10) + c % 10) (by omega) (by omega)
          rw [ec, if_neg q9.1, if_neg q9.2.1, if_neg q9.2.2.1, if_neg q9.2.2.2, S9gS0, o1, o2, a1, b2_some, S9gS1, a2, b2_some, S9replace_ok _ _ hh3 (by omega) (by omega) (by omega), Option.bind_some, nI_1]
        · rw [es]; rfl
        · rw [es]
          intro i hi j hj
          have e : (stp (lq qy qn j) c (h, v j)).2 = updA (v j) (h - c % 10) (decide (c / 10 % 10 ≤ cntB (fun i => (v j (h - c % 10 + i)).1) (c % 10)), decide (c % 10 + 1 ≤ c / 10 % 10 + cntB (fun i => (v j (h - c % 10 + i)).2) (c % 10))) := by unfold stp; rw [if_neg k0, if_neg k1, if_pos k4]
          simp only [e]
          refine upd (h - c % 10) _ _ (fun j => (decide (c / 10 % 10 ≤ cntB (fun i => (v j (h - c % 10 + i)).1) (c % 10)), decide (c % 10 + 1 ≤ c / 10 % 10 + cntB (fun i => (v j (h - c % 10 + i)).2) (c % 10)))) (fun j hj => ?_) i (by omega) j hj
          rw [b1 j hj, b2' j hj, nI_toInt (by omega), restC (by omega) (by omega)]
          have c1 : cntB (fun i => lb ((if 109 = 109 then y else n) (h - c % 10 + i)) j) (c % 10) = cntB (fun i => (v j (h - c % 10 + i)).1) (c % 10) := cntB_congr fun t ht => by
            rw [if_pos rfl]; exact (hr _ (by omega) j hj).1
          have c2 : cntB (fun i => lb ((if 110 = 109 then y else n) (h - c % 10 + i)) j) (c % 10) = cntB (fun i => (v j (h - c % 10 + i)).2) (c % 10) := cntB_congr fun t ht => by
            rw [if_neg (by decide)]; exact (hr _ (by omega) j hj).2
          rw [c1, c2]
          refine Prod.ext ?_ ?_
          · exact decide_eq_decide.mpr (by omega)
          · exact decide_eq_decide.mpr (by omega)
      · rw [if_neg k4] at hok'
        have hf := of_decide_eq_true hok'
        have es : hst c h = h - 1 := by unfold hst; rw [if_neg k0, if_neg k1, if_neg k4]
        by_cases k2 : c / 100 = 2
        · have ec : cc c = 9 := by unfold cc; rw [if_neg k0, if_neg k1, if_neg k4, if_pos k2]
          refine ⟨updA hh 3 (nI (h - 2 + 1)), updA y (h - 2) (y (h - 2) &&& y (h - 1)), updA n (h - 2) (n (h - 2) ||| n (h - 1)), z, ?_, ?_, ⟨rfl, rfl, rfl⟩, ?_⟩
          · rw [ec, if_neg (by decide), if_neg (by decide), if_pos (by rfl), S9gS0, S9top1_ok hh3 (by omega) (by omega) 109 t09, Option.bind_some, S9gS0, S9top0_ok hh3 (by omega) (by omega) 109 t09, Option.bind_some, S9gS1, S9top1_ok hh3 (by omega) (by omega) 110 t10, Option.bind_some, S9gS1, S9top0_ok hh3 (by omega) (by omega) 110 t10, Option.bind_some]
            rw [show (2 : Int32) = nI 2 from rfl, S9replace_ok _ _ hh3 (by omega) (by omega) (by omega), Option.bind_some, nI_1]; rfl
          · rw [es]; show nI (h - 2 + 1) = nI (h - 1); congr 1; omega
          · rw [es]
            intro i hi j hj
            have e : (stp (lq qy qn j) c (h, v j)).2 = updA (v j) (h - 2) ((v j (h - 2)).1 && (v j (h - 1)).1, (v j (h - 2)).2 || (v j (h - 1)).2) := by unfold stp; rw [if_neg k0, if_neg k1, if_neg k4, if_pos k2]
            simp only [e]
            refine upd (h - 2) _ _ (fun j => ((v j (h - 2)).1 && (v j (h - 1)).1, (v j (h - 2)).2 || (v j (h - 1)).2)) (fun j hj => ?_) i (by omega) j hj
            rw [← (hr (h - 2) (by omega) j hj).1, ← (hr (h - 2) (by omega) j hj).2, ← (hr (h - 1) (by omega) j hj).1, ← (hr (h - 1) (by omega) j hj).2]
            unfold lb; rw [i64_and, i64_or]
        · have ec : cc c = 10 := by unfold cc; rw [if_neg k0, if_neg k1, if_neg k4, if_neg k2]
          refine ⟨updA hh 3 (nI (h - 2 + 1)), updA y (h - 2) (y (h - 2) ||| y (h - 1)), updA n (h - 2) (n (h - 2) &&& n (h - 1)), z, ?_, ?_, ⟨rfl, rfl, rfl⟩, ?_⟩
          · rw [ec, if_neg (by decide), if_neg (by decide), if_neg (by decide), if_pos (by rfl), S9gS0, S9top1_ok hh3 (by omega) (by omega) 109 t09, Option.bind_some, S9gS0, S9top0_ok hh3 (by omega) (by omega) 109 t09, Option.bind_some, S9gS1, S9top1_ok hh3 (by omega) (by omega) 110 t10, Option.bind_some, S9gS1, S9top0_ok hh3 (by omega) (by omega) 110 t10, Option.bind_some]
            rw [show (2 : Int32) = nI 2 from rfl, S9replace_ok _ _ hh3 (by omega) (by omega) (by omega), Option.bind_some, nI_1]; rfl
          · rw [es]; show nI (h - 2 + 1) = nI (h - 1); congr 1; omega
          · rw [es]
            intro i hi j hj
            have e : (stp (lq qy qn j) c (h, v j)).2 = updA (v j) (h - 2) ((v j (h - 2)).1 || (v j (h - 1)).1, (v j (h - 2)).2 && (v j (h - 1)).2) := by unfold stp; rw [if_neg k0, if_neg k1, if_neg k4, if_neg k2]
            simp only [e]
            refine upd (h - 2) _ _ (fun j => ((v j (h - 2)).1 || (v j (h - 1)).1, (v j (h - 2)).2 && (v j (h - 1)).2)) (fun j hj => ?_) i (by omega) j hj
            rw [← (hr (h - 2) (by omega) j hj).1, ← (hr (h - 2) (by omega) j hj).2, ← (hr (h - 1) (by omega) j hj).1, ← (hr (h - 1) (by omega) j hj).2]
            unfold lb; rw [i64_and, i64_or]
end SEER
section TAB
variable {σ : Sg} {I : Nat → Nat → Int32} {L : Nat → Nat → Int64}
theorem S9run_ok {hh : Nat → Int32} {y n z : Nat → Int64} (ca : Nat) (hca : S9SH (gN σ) ca = (50, 960)) (hc8 : ca ≠ 108) (cd : Nat → Nat) (a b : Nat) (hab : a ≤ b) (hb : b ≤ 960) (hw : ∀ s, s < b - a → hok (cd (a + s)) (hAt cd a s) = true)
    (hcode : ∀ i, a ≤ i → i < b → I ca i = nI (cc (cd i))) (qy qn : Nat → Int64)
    (hq : ∀ hh' y n z, hh' 4 = hh 4 → hh' 5 = hh 5 → hh' 6 = hh 6 → ∀ f, f < 8 → mX4_leafYes 108 (nI f) (S9sHk σ I L hh' y n z) = some (qy f) ∧ mX4_leafNo 108 (nI f) (S9sHk σ I L hh' y n z) = some (qn f)) :
    ∃ hh' y' n' z', mX4_run 108 ca (nI a) (nI b) (S9sHk σ I L hh y n z) = some (S9sHk σ I L hh' y' n' z') ∧ (hh' 4 = hh 4 ∧ hh' 5 = hh 5 ∧ hh' 6 = hh 6) ∧ (1 ≤ hAt cd a (b - a) → ∀ j, j < 64 → (lb (y' 0) j, lb (n' 0) j) = evP (lq qy qn j) cd a b) := by
  have h60 := hAt_le60 hw
  have start : mX4_run 108 ca (nI a) (nI b) (S9sHk σ I L hh y n z) = mX4_run_l20 108 ca (nI b) (nI a) (S9sHk σ I L (updA hh 3 (nI 0)) (updA y 0 0) (updA n 0 0) z) := by
    unfold mX4_run S9sHk
    simp (disch := first | assumption | omega) only [↓S9gI_b, ↓S9gL_b, ↓S9gR_b, ↓S9sI_b, ↓S9sZ_b, ↓S9sL_b, ↓S9aLen_b, ↓S9ldI_b, ↓S9ldL_b, ↓S9ldZ_b, ↓S9ldR_b, ↓S9stI_b, ↓S9stL_b, ↓S9stZ_b, ↓S9at_b, ↓S9put_b, ↓S9longAt_b, ↓S9putLong_b, ↓has_b, ↓mhas_b, ↓needSlot_b, ↓reduceIte, S9hpS_hk, kI_50, kI_80, kL_51, kL_81, kS_ok, kI_0, kI_1, kL_0, kS_0, kS_1, ixN_n, ixN_0, ixN_1, k50_ok, k51_ok, rowUp_at, updAt, rowUp_two, updA_two, Nat.add_zero, atV_n, laV_n, atV_0, laV_0, putV_n, plV_n, hasI_n, obind, b2s, xts, eq_self, Nat.reduceAdd, Nat.reduceEqDiff, Nat.reduceMul, Nat.reduceLT, Nat.reduceSub, nI_1, nI_add, pk_mul, nI_sub, nI_s1, nI_m1, lt_t, lt_f, lt0_f, eq0_d, eq1_d, gt0_d, lt_d, eq_d, bI0_d, bI1_d, if_pos, if_neg, true_and, and_true, true_or, or_true, aKd_50, aKd_51, aKd_80, aKd_81, aKd_65, aKd_70, z01_b, z01_e, z01_0, z01_1, S9SH_100, S9SH_101, S9SH_102, S9SH_103, S9SH_104, S9SH_105, S9SH_106, S9SH_107, S9SH_108, S9SH_109, S9SH_110, S9SH_111, S9SH_282, S9SH_283, S9SH_284, S9SH_285, S9SH_286, S9SH_287, S9SH_414, S9SH_415, S9SH_416, S9SH_417, S9SH_418, S9SH_419, S9SH_420, S9SH_421, S9SH_422, S9SH_423, S9SH_424, S9SH_425, S9SH_426, S9SH_427, S9SH_428, S9SH_429, S9SH_430, S9SH_431, S9SH_432, SH_433, SH_434, SH_435, SH_436, SH_437, SH_438, SH_439, SH_440, SH_441, SH_442, SH_443, SH_444, SH_445, SH_446, SH_447, SH_448, SH_449, SH_450, SH_451, SH_452, SH_453, SH_454, S9SH_1, S9SH_2, S9SH_3, S9RF_100_0, S9RF_100_1, S9RF_100_2, S9RF_100_3, S9RF_100_4, S9RF_100_5, S9RF_100_6, S9RF_100_7, S9RF_100_8, S9RF_100_9, S9RF_100_10, S9RF_100_11, S9RF_100_12, S9RF_100_13, S9RF_100_14, S9RF_100_15, S9RF_282_0, S9RF_282_1, S9RF_282_2, S9RF_282_3, S9RF_282_4, S9RF_101_0, S9RF_103_0, S9RF_103_1, S9RF_103_2, S9RF_103_3, S9RF_108_0, S9RF_108_1, S9RF_108_2, S9RF_283_0, S9RF_285_0, S9RF_285_1, S9RF_414_0, S9RF_416_0, S9RF_418_0, S9RF_420_0, S9RF_420_1, S9RF_420_2, S9RF_420_3, S9RF_426_0, S9RF_426_1, S9RF_426_2, S9RF_426_3, S9RF_426_4, i0]
    have e : ∀ (hh' : Nat → Int32), S9hk σ (rowUp I 108 hh') (rowUp (rowUp (rowUp L 109 y) 110 n) 111 z) = S9sHk σ I L hh' y n z := fun _ => rfl
    rw [e, S9replace_ok (σ := σ) (h := 0) (t := 0) _ _ (updA_same _ _ _) (by omega) (by omega) (by omega), Option.bind_some]
    unfold S9sHk
    simp (disch := first | assumption | omega) only [↓S9gI_b, ↓S9gL_b, ↓S9gR_b, ↓S9sI_b, ↓S9sZ_b, ↓S9sL_b, ↓S9aLen_b, ↓S9ldI_b, ↓S9ldL_b, ↓S9ldZ_b, ↓S9ldR_b, ↓S9stI_b, ↓S9stL_b, ↓S9stZ_b, ↓S9at_b, ↓S9put_b, ↓S9longAt_b, ↓S9putLong_b, ↓has_b, ↓mhas_b, ↓needSlot_b, ↓reduceIte, S9hpS_hk, kI_50, kI_80, kL_51, kL_81, kS_ok, kI_0, kI_1, kL_0, kS_0, kS_1, ixN_n, ixN_0, ixN_1, k50_ok, k51_ok, rowUp_at, updAt, rowUp_two, updA_two, Nat.add_zero, atV_n, laV_n, atV_0, laV_0, putV_n, plV_n, hasI_n, obind, b2s, xts, eq_self, Nat.reduceAdd, Nat.reduceEqDiff, Nat.reduceMul, Nat.reduceLT, Nat.reduceSub, nI_1, nI_add, pk_mul, nI_sub, nI_s1, nI_m1, lt_t, lt_f, lt0_f, eq0_d, eq1_d, gt0_d, lt_d, eq_d, bI0_d, bI1_d, if_pos, if_neg, true_and, and_true, true_or, or_true, aKd_50, aKd_51, aKd_80, aKd_81, aKd_65, aKd_70, z01_b, z01_e, z01_0, z01_1, S9SH_100, S9SH_101, S9SH_102, S9SH_103, S9SH_104, S9SH_105, S9SH_106, S9SH_107, S9SH_108, S9SH_109, S9SH_110, S9SH_111, S9SH_282, S9SH_283, S9SH_284, S9SH_285, S9SH_286, S9SH_287, S9SH_414, S9SH_415, S9SH_416, S9SH_417, S9SH_418, S9SH_419, S9SH_420, S9SH_421, S9SH_422, S9SH_423, S9SH_424, S9SH_425, S9SH_426, S9SH_427, S9SH_428, S9SH_429, S9SH_430, S9SH_431, S9SH_432, SH_433, SH_434, SH_435, SH_436, SH_437, SH_438, SH_439, SH_440, SH_441, SH_442, SH_443, SH_444, SH_445, SH_446, SH_447, SH_448, SH_449, SH_450, SH_451, SH_452, SH_453, SH_454, S9SH_1, S9SH_2, S9SH_3, S9RF_100_0, S9RF_100_1, S9RF_100_2, S9RF_100_3, S9RF_100_4, S9RF_100_5, S9RF_100_6, S9RF_100_7, S9RF_100_8, S9RF_100_9, S9RF_100_10, S9RF_100_11, S9RF_100_12, S9RF_100_13, S9RF_100_14, S9RF_100_15, S9RF_282_0, S9RF_282_1, S9RF_282_2, S9RF_282_3, S9RF_282_4, S9RF_101_0, S9RF_103_0, S9RF_103_1, S9RF_103_2, S9RF_103_3, S9RF_108_0, S9RF_108_1, S9RF_108_2, S9RF_283_0, S9RF_285_0, S9RF_285_1, S9RF_414_0, S9RF_416_0, S9RF_418_0, S9RF_420_0, S9RF_420_1, S9RF_420_2, S9RF_420_3, S9RF_426_0, S9RF_426_1, S9RF_426_2, S9RF_426_3, S9RF_426_4, i0]
  rw [start]
  unfold mX4_run_l20
  have key := lp_inv (f := fun s : Int32 × Hp => mX4_run_l20f 108 ca (nI b) s.1 s.2) (b - a) (fun s st => ∃ hh' y' n' z', st = (nI (a + s), S9sHk σ I L hh' y' n' z') ∧ hh' 3 = nI (hAt cd a s) ∧ (hh' 4 = hh 4 ∧ hh' 5 = hh 5 ∧ hh' 6 = hh 6) ∧ relS y' n' (hAt cd a s) (fun j => (runV (lq qy qn j) cd a s).2))
    (fun r => ∃ hh' y' n' z', r = S9sHk σ I L hh' y' n' z' ∧ (hh' 4 = hh 4 ∧ hh' 5 = hh 5 ∧ hh' 6 = hh 6) ∧ relS y' n' (hAt cd a (b - a)) (fun j => (runV (lq qy qn j) cd a (b - a)).2))
    (fun s st hs hQ => by
      obtain ⟨hh', y', n', z', rfl, e3, e4, hr⟩ := hQ
      obtain ⟨hh2, y2, n2, z2, r1, r2, r3, r4⟩ := S9run_step ca hca hc8 (cd (a + s)) b (a + s) (hAt cd a s) (hcode _ (by omega) (by omega)) (by omega) hb qy qn (hq hh' y' n' z' e4.1 e4.2.1 e4.2.2) e3 (hw s hs) (h60 s (by omega)) _ hr
      refine ⟨_, r1, hh2, y2, n2, z2, rfl, r2, ⟨r3.1.trans e4.1, r3.2.1.trans e4.2.1, r3.2.2.trans e4.2.2⟩, ?_⟩
      intro i hi j hj
      have h1 := r4 i hi j hj
      simp only at h1 ⊢
      have e : ((hAt cd a s), (runV (lq qy qn j) cd a s).2) = runV (lq qy qn j) cd a s := Prod.ext (runV_h _ _ _ _).symm rfl
      rw [e] at h1
      exact h1)
    (fun st hQ => by
      obtain ⟨hh', y', n', z', rfl, e3, e4, hr⟩ := hQ
      refine ⟨_, ?_, hh', y', n', z', rfl, e4, hr⟩
      show mX4_run_l20f 108 ca (nI b) (nI (a + (b - a))) _ = _
      unfold mX4_run_l20f
      rw [if_neg (nI_pos (by omega)), if_neg (nI_nlt (by omega) (by omega))]; rfl)
    (s := (nI a, S9sHk σ I L (updA hh 3 (nI 0)) (updA y 0 0) (updA n 0 0) z)) ⟨_, _, _, _, rfl, updA_same _ _ _, ⟨rfl, rfl, rfl⟩, fun i hi => absurd hi (Nat.not_lt_zero _)⟩
  obtain ⟨r, e, hh', y', n', z', rfl, e4, hr⟩ := key
  refine ⟨hh', y', n', z', e, e4, fun h1 j hj => ?_⟩
  have := hr 0 (by omega) j hj
  unfold evP
  exact Prod.ext this.1 this.2
theorem S9leafW {hh : Nat → Int32} {y n z : Nat → Int64} (hS : SOk L) {f i : Nat} (hf : f < 8) (hi : i < 4) (h4 : hh 4 = nI i) :
    mX4_leafYes 108 (nI f) (S9sHk σ I L hh y n z) = some (soV f i) ∧ mX4_leafNo 108 (nI f) (S9sHk σ I L hh y n z) = some (soV f i ^^^ (-1)) := by
  have hS2 : SOk (rowUp (rowUp (rowUp L 109 y) 110 n) 111 z) := fun k S9hk => by
    rw [rowUp_at, if_neg (by omega), rowUp_at, if_neg (by omega), rowUp_at, if_neg (by omega)]; exact hS k S9hk
  have e := S9soIn_ok (σ := σ) (I := rowUp I 108 hh) hS2 hf hi
  constructor
  · unfold mX4_leafYes S9sHk
    simp (disch := first | assumption | omega) only [↓S9gI_b, ↓S9gL_b, ↓S9gR_b, ↓S9sI_b, ↓S9sZ_b, ↓S9sL_b, ↓S9aLen_b, ↓S9ldI_b, ↓S9ldL_b, ↓S9ldZ_b, ↓S9ldR_b, ↓S9stI_b, ↓S9stL_b, ↓S9stZ_b, ↓S9at_b, ↓S9put_b, ↓S9longAt_b, ↓S9putLong_b, ↓has_b, ↓mhas_b, ↓needSlot_b, ↓reduceIte, S9hpS_hk, kI_50, kI_80, kL_51, kL_81, kS_ok, kI_0, kI_1, kL_0, kS_0, kS_1, ixN_n, ixN_0, ixN_1, k50_ok, k51_ok, rowUp_at, updAt, rowUp_two, updA_two, Nat.add_zero, atV_n, laV_n, atV_0, laV_0, putV_n, plV_n, hasI_n, obind, b2s, xts, eq_self, Nat.reduceAdd, Nat.reduceEqDiff, Nat.reduceMul, Nat.reduceLT, Nat.reduceSub, nI_1, nI_add, pk_mul, nI_sub, nI_s1, nI_m1, lt_t, lt_f, lt0_f, eq0_d, eq1_d, gt0_d, lt_d, eq_d, bI0_d, bI1_d, if_pos, if_neg, true_and, and_true, true_or, or_true, aKd_50, aKd_51, aKd_80, aKd_81, aKd_65, aKd_70, z01_b, z01_e, z01_0, z01_1, S9SH_100, S9SH_101, S9SH_102, S9SH_103, S9SH_104, S9SH_105, S9SH_106, S9SH_107, S9SH_108, S9SH_109, S9SH_110, S9SH_111, S9SH_282, S9SH_283, S9SH_284, S9SH_285, S9SH_286, S9SH_287, S9SH_414, S9SH_415, S9SH_416, S9SH_417, S9SH_418, S9SH_419, S9SH_420, S9SH_421, S9SH_422, S9SH_423, S9SH_424, S9SH_425, S9SH_426, S9SH_427, S9SH_428, S9SH_429, S9SH_430, S9SH_431, S9SH_432, SH_433, SH_434, SH_435, SH_436, SH_437, SH_438, SH_439, SH_440, SH_441, SH_442, SH_443, SH_444, SH_445, SH_446, SH_447, SH_448, SH_449, SH_450, SH_451, SH_452, SH_453, SH_454, S9SH_1, S9SH_2, S9SH_3, S9RF_100_0, S9RF_100_1, S9RF_100_2, S9RF_100_3, S9RF_100_4, S9RF_100_5, S9RF_100_6, S9RF_100_7, S9RF_100_8, S9RF_100_9, S9RF_100_10, S9RF_100_11, S9RF_100_12, S9RF_100_13, S9RF_100_14, S9RF_100_15, S9RF_282_0, S9RF_282_1, S9RF_282_2, S9RF_282_3, S9RF_282_4, S9RF_101_0, S9RF_103_0, S9RF_103_1, S9RF_103_2, S9RF_103_3, S9RF_108_0, S9RF_108_1, S9RF_108_2, S9RF_283_0, S9RF_285_0, S9RF_285_1, S9RF_414_0, S9RF_416_0, S9RF_418_0, S9RF_420_0, S9RF_420_1, S9RF_420_2, S9RF_420_3, S9RF_426_0, S9RF_426_1, S9RF_426_2, S9RF_426_3, S9RF_426_4, h4, eqm1_d, e]
  · unfold mX4_leafNo S9sHk
    simp (disch := first | assumption | omega) only [↓S9gI_b, ↓S9gL_b, ↓S9gR_b, ↓S9sI_b, ↓S9sZ_b, ↓S9sL_b, ↓S9aLen_b, ↓S9ldI_b, ↓S9ldL_b, ↓S9ldZ_b, ↓S9ldR_b, ↓S9stI_b, ↓S9stL_b, ↓S9stZ_b, ↓S9at_b, ↓S9put_b, ↓S9longAt_b, ↓S9putLong_b, ↓has_b, ↓mhas_b, ↓needSlot_b, ↓reduceIte, S9hpS_hk, kI_50, kI_80, kL_51, kL_81, kS_ok, kI_0, kI_1, kL_0, kS_0, kS_1, ixN_n, ixN_0, ixN_1, k50_ok, k51_ok, rowUp_at, updAt, rowUp_two, updA_two, Nat.add_zero, atV_n, laV_n, atV_0, laV_0, putV_n, plV_n, hasI_n, obind, b2s, xts, eq_self, Nat.reduceAdd, Nat.reduceEqDiff, Nat.reduceMul, Nat.reduceLT, Nat.reduceSub, nI_1, nI_add, pk_mul, nI_sub, nI_s1, nI_m1, lt_t, lt_f, lt0_f, eq0_d, eq1_d, gt0_d, lt_d, eq_d, bI0_d, bI1_d, if_pos, if_neg, true_and, and_true, true_or, or_true, aKd_50, aKd_51, aKd_80, aKd_81, aKd_65, aKd_70, z01_b, z01_e, z01_0, z01_1, S9SH_100, S9SH_101, S9SH_102, S9SH_103, S9SH_104, S9SH_105, S9SH_106, S9SH_107, S9SH_108, S9SH_109, S9SH_110, S9SH_111, S9SH_282, S9SH_283, S9SH_284, S9SH_285, S9SH_286, S9SH_287, S9SH_414, S9SH_415, S9SH_416, S9SH_417, S9SH_418, S9SH_419, S9SH_420, S9SH_421, S9SH_422, S9SH_423, S9SH_424, S9SH_425, S9SH_426, S9SH_427, S9SH_428, S9SH_429, S9SH_430, S9SH_431, S9SH_432, SH_433, SH_434, SH_435, SH_436, SH_437, SH_438, SH_439, SH_440, SH_441, SH_442, SH_443, SH_444, SH_445, SH_446, SH_447, SH_448, SH_449, SH_450, SH_451, SH_452, SH_453, SH_454, S9SH_1, S9SH_2, S9SH_3, S9RF_100_0, S9RF_100_1, S9RF_100_2, S9RF_100_3, S9RF_100_4, S9RF_100_5, S9RF_100_6, S9RF_100_7, S9RF_100_8, S9RF_100_9, S9RF_100_10, S9RF_100_11, S9RF_100_12, S9RF_100_13, S9RF_100_14, S9RF_100_15, S9RF_282_0, S9RF_282_1, S9RF_282_2, S9RF_282_3, S9RF_282_4, S9RF_101_0, S9RF_103_0, S9RF_103_1, S9RF_103_2, S9RF_103_3, S9RF_108_0, S9RF_108_1, S9RF_108_2, S9RF_283_0, S9RF_285_0, S9RF_285_1, S9RF_414_0, S9RF_416_0, S9RF_418_0, S9RF_420_0, S9RF_420_1, S9RF_420_2, S9RF_420_3, S9RF_426_0, S9RF_426_1, S9RF_426_2, S9RF_426_3, S9RF_426_4, h4, eqm1_d, e]
theorem S9hk_sHk : S9hk σ I L = S9sHk σ I L (I 108) (L 109) (L 110) (L 111) := by
  unfold S9sHk; rw [rowUp_id, rowUp_id, rowUp_id, rowUp_id]
theorem S9sHk_p {hh : Nat → Int32} {y n z : Nat → Int64} {p : Nat} (r : Nat → Int64) (h9 : p ≠ 109) (h10 : p ≠ 110) (h11 : p ≠ 111) : S9hk σ (rowUp I 108 hh) (rowUp (rowUp (rowUp (rowUp L 109 y) 110 n) 111 z) p r) = S9sHk σ I (rowUp L p r) hh y n z := by
  have : rowUp (rowUp (rowUp (rowUp L 109 y) 110 n) 111 z) p r = rowUp (rowUp (rowUp (rowUp L p r) 109 y) 110 n) 111 z := by
    funext b
    simp only [rowUp_at]
    by_cases e : b = p
    · subst e; rw [if_pos rfl, if_neg h11, if_neg h10, if_neg h9]; simp
    · simp [e]
  rw [this]; rfl
theorem S9tab_ok (hS : SOk L) (ca : Nat) (hca : S9SH (gN σ) ca = (50, 960)) (hc8 : ca ≠ 108) (cd : Nat → Nat) (a b : Nat) (hab : a ≤ b) (hb : b ≤ 960) (hw : ∀ s, s < b - a → hok (cd (a + s)) (hAt cd a s) = true)
    (hcode : ∀ i, a ≤ i → i < b → I ca i = nI (cc (cd i))) (wa p : Nat) (hwa : ∀ hh L, isW (S9hk σ (rowUp I 108 hh) L) wa p) (h2 : p ≠ 2) (h9 : p ≠ 109) (h10 : p ≠ 110) (h11 : p ≠ 111) :
    ∃ hh y n z r, mX4_tabulate 108 ca (nI a) (nI b) wa (S9hk σ I L) = some (S9sHk σ I (rowUp L p r) hh y n z) ∧ (1 ≤ hAt cd a (b - a) → Rw r (fun w => (evP (qw w) cd a b).1)) := by
  have h0 : S9hk σ I L = S9sHk σ I (rowUp L p (L p)) (I 108) (L 109) (L 110) (L 111) := by rw [rowUp_id]; exact S9hk_sHk
  have hSr : ∀ r, SOk (rowUp L p r) := fun r k S9hk => by rw [rowUp_at, if_neg (fun e => h2 e.symm)]; exact hS k S9hk
  rw [h0]
  unfold mX4_tabulate
  rw [if_pos (show (hpS (S9sHk σ I (rowUp L p (L p)) (I 108) (L 109) (L 110) (L 111)) 108).1 = 5 from rfl)]
  unfold mX4_tabulate_l3
  have key := lp_inv (f := fun s : Int32 × Hp => mX4_tabulate_l3f 108 ca (nI a) (nI b) wa s.1 s.2) 4 (fun i st => ∃ hh y n z r, st = (nI i, S9sHk σ I (rowUp L p r) hh y n z) ∧ (1 ≤ hAt cd a (b - a) → ∀ k, k < i → ∀ j, j < 64 → lb (r k) j = (evP (qw (64 * k + j)) cd a b).1))
    (fun h' => ∃ hh y n z r, h' = S9sHk σ I (rowUp L p r) hh y n z ∧ (1 ≤ hAt cd a (b - a) → ∀ k, k < 4 → ∀ j, j < 64 → lb (r k) j = (evP (qw (64 * k + j)) cd a b).1))
    (fun i st hi hQ => by
      obtain ⟨hh, y, n, z, r, rfl, hr⟩ := hQ
      obtain ⟨hh', y', n', z', e, e4, ev⟩ := S9run_ok (σ := σ) (I := I) (L := rowUp L p r) (hh := updA hh 4 (nI i)) (y := y) (n := n) (z := z) ca hca hc8 cd a b hab hb hw hcode (fun f => soV f i) (fun f => soV f i ^^^ (-1)) (fun hh2 y2 n2 z2 e4 _ _ f hf => S9leafW (hSr r) hf hi (by rw [e4]; exact updA_same _ _ _))
      refine ⟨(nI (i + 1), S9sHk σ I (rowUp L p (updA r i (y' 0))) hh' y' n' z'), ?_, hh', y', n', z', _, rfl, fun h1 k S9hk j hj => ?_⟩
      · show mX4_tabulate_l3f 108 ca (nI a) (nI b) wa (nI i) (S9sHk σ I (rowUp L p r) hh y n z) = _
        unfold mX4_tabulate_l3f
        rw [show (4 : Int32) = nI 4 from rfl, c_lt hi (by omega)]
        have s1 : sI 4 4 108 (nI i) (S9sHk σ I (rowUp L p r) hh y n z) = some (S9sHk σ I (rowUp L p r) (updA hh 4 (nI i)) y n z) := by
          unfold S9sHk
          unfold sI
          rw [S9hpS_hk, if_pos (show (S9SH (gN σ) 108).1 = 4 + 1 from rfl), S9upI_hk, rowUp_two, rowUp_same]
        rw [s1, Option.bind_some, e, Option.bind_some]
        have g1 : gR 10 0 wa (S9sHk σ I (rowUp L p r) hh' y' n' z') = some p := (hwa hh' _).g
        have g3 : mX11_longAt 109 0 (S9sHk σ I (rowUp L p r) hh' y' n' z') = some (y' 0) := by
          unfold S9sHk
          rw [S9longAt_e 109 0 rfl (by rw [S9SH_109]; decide), S9SH_109]
          simp (disch := first | assumption | omega) only [↓S9gI_b, ↓S9gL_b, ↓S9gR_b, ↓S9sI_b, ↓S9sZ_b, ↓S9sL_b, ↓S9aLen_b, ↓S9ldI_b, ↓S9ldL_b, ↓S9ldZ_b, ↓S9ldR_b, ↓S9stI_b, ↓S9stL_b, ↓S9stZ_b, ↓S9at_b, ↓S9put_b, ↓S9longAt_b, ↓S9putLong_b, ↓has_b, ↓mhas_b, ↓needSlot_b, ↓reduceIte, S9hpS_hk, kI_50, kI_80, kL_51, kL_81, kS_ok, kI_0, kI_1, kL_0, kS_0, kS_1, ixN_n, ixN_0, ixN_1, k50_ok, k51_ok, rowUp_at, updAt, rowUp_two, updA_two, Nat.add_zero, atV_n, laV_n, atV_0, laV_0, putV_n, plV_n, hasI_n, obind, b2s, xts, eq_self, Nat.reduceAdd, Nat.reduceEqDiff, Nat.reduceMul, Nat.reduceLT, Nat.reduceSub, nI_1, nI_add, pk_mul, nI_sub, nI_s1, nI_m1, lt_t, lt_f, lt0_f, eq0_d, eq1_d, gt0_d, lt_d, eq_d, bI0_d, bI1_d, if_pos, if_neg, true_and, and_true, true_or, or_true, aKd_50, aKd_51, aKd_80, aKd_81, aKd_65, aKd_70, z01_b, z01_e, z01_0, z01_1, S9SH_100, S9SH_101, S9SH_102, S9SH_103, S9SH_104, S9SH_105, S9SH_106, S9SH_107, S9SH_108, S9SH_109, S9SH_110, S9SH_111, S9SH_282, S9SH_283, S9SH_284, S9SH_285, S9SH_286, S9SH_287, S9SH_414, S9SH_415, S9SH_416, S9SH_417, S9SH_418, S9SH_419, S9SH_420, S9SH_421, S9SH_422, S9SH_423, S9SH_424, S9SH_425, S9SH_426, S9SH_427, S9SH_428, S9SH_429, S9SH_430, S9SH_431, S9SH_432, SH_433, SH_434, SH_435, SH_436, SH_437, SH_438, SH_439, SH_440, SH_441, SH_442, SH_443, SH_444, SH_445, SH_446, SH_447, SH_448, SH_449, SH_450, SH_451, SH_452, SH_453, SH_454, S9SH_1, S9SH_2, S9SH_3, S9RF_100_0, S9RF_100_1, S9RF_100_2, S9RF_100_3, S9RF_100_4, S9RF_100_5, S9RF_100_6, S9RF_100_7, S9RF_100_8, S9RF_100_9, S9RF_100_10, S9RF_100_11, S9RF_100_12, S9RF_100_13, S9RF_100_14, S9RF_100_15, S9RF_282_0, S9RF_282_1, S9RF_282_2, S9RF_282_3, S9RF_282_4, S9RF_101_0, S9RF_103_0, S9RF_103_1, S9RF_103_2, S9RF_103_3, S9RF_108_0, S9RF_108_1, S9RF_108_2, S9RF_283_0, S9RF_285_0, S9RF_285_1, S9RF_414_0, S9RF_416_0, S9RF_418_0, S9RF_420_0, S9RF_420_1, S9RF_420_2, S9RF_420_3, S9RF_426_0, S9RF_426_1, S9RF_426_2, S9RF_426_3, S9RF_426_4]
        have g4 : mX11_putLong p (nI i) (y' 0) (S9sHk σ I (rowUp L p r) hh' y' n' z') = some (S9sHk σ I (rowUp L p (updA r i (y' 0))) hh' y' n' z') := by
          have hs : hpS (S9sHk σ I (rowUp L p r) hh' y' n' z') p = (51, 4) := (hwa hh' L).2.2
          rw [putLong_nI hs (by omega) hi]
          have er : hpL (S9sHk σ I (rowUp L p r) hh' y' n' z') p = r := by
            show rowUp (rowUp (rowUp (rowUp L p r) 109 y') 110 n') 111 z' p = r
            rw [rowUp_at, if_neg h11, rowUp_at, if_neg h10, rowUp_at, if_neg h9, rowUp_at, if_pos rfl]
          rw [er]
          show some (setL (S9hk _ _ _) _ _) = _
          rw [S9setL_hk, S9sHk_p _ h9 h10 h11, rowUp_two]
        rw [g1, Option.bind_some, S9gS0, g3, Option.bind_some, g4, Option.bind_some, nI_1]
      · rw [updA_at]
        by_cases ek : k = i
        · subst ek
          rw [if_pos rfl]
          have h3 := ev h1 j hj
          have h4 := congrArg Prod.fst h3
          simp only at h4
          rw [h4]
          rw [evP_congr (q := lq (fun f => soV f k) (fun f => soV f k ^^^ (-1)) j) (q' := qw (64 * k + j)) (fun f hf => ?_) hw]
          unfold lq qw lb
          rw [i64_not _ hj, soV_bit f hf k hi j hj]
        · rw [if_neg ek]; exact hr h1 k (by omega) j hj)
    (fun st hQ => by
      obtain ⟨hh, y, n, z, r, rfl, hr⟩ := hQ
      refine ⟨_, ?_, hh, y, n, z, r, rfl, hr⟩
      show mX4_tabulate_l3f 108 ca (nI a) (nI b) wa (nI 4) _ = _
      unfold mX4_tabulate_l3f
      rw [if_neg (by decide)]; rfl)
    (s := (nI 0, S9sHk σ I (rowUp L p (L p)) (I 108) (L 109) (L 110) (L 111))) ⟨_, _, _, _, _, rfl, fun _ k S9hk => by omega⟩
  obtain ⟨h', e, hh, y, n, z, r, rfl, hr⟩ := key
  exact ⟨hh, y, n, z, r, e, fun h1 => wv_set fun i hi j hj => hr h1 i hi j hj⟩
end TAB
section CB
variable {σ : Sg} {I : Nat → Nat → Int32} {L : Nat → Nat → Int64}
theorem S9wPos {la : Nat} (h : isLa la) : isW (S9hk σ I L) (la + 11) (la + 12) := S9isW_hk (by rw [S9SH_la11 h]) (S9RF_la11 σ h) (S9SH_la12 h)
theorem S9wTab {la i : Nat} (h : isLa la) (hi : i < 31) : isW (S9hk σ I L) (la + 16 + 2 * i) (la + 17 + 2 * i) := S9isW_hk (by rw [S9SH_laT h hi]) (S9RF_laP σ h hi) (S9SH_laP h hi)
theorem S9gI_o {c n : Nat} (k : Nat) {a : Nat} (hs : S9SH (gN σ) a = (c + 1, n)) : gI c k a (S9hk σ I L) = some (I a k) := by
  unfold gI; rw [S9hpS_hk, hs, if_pos rfl]; rfl
theorem S9gR_o {c n : Nat} (k : Nat) {a : Nat} (hs : S9SH (gN σ) a = (c + 1, n)) : gR c k a (S9hk σ I L) = some (S9RF σ a k) := by
  unfold gR; rw [S9hpS_hk, hs, if_pos rfl]; rfl
theorem S9gI_la {la : Nat} (h : isLa la) (k : Nat) : gI 1 k la (S9hk σ I L) = some (I la k) := S9gI_o k (S9SH_la0 h)
theorem S9gR_la {la : Nat} (h : isLa la) (k : Nat) : gR 1 k la (S9hk σ I L) = some (S9RF σ la k) := S9gR_o k (S9SH_la0 h)
theorem S9at_r {a n i : Nat} (hs : S9SH (gN σ) a = (50, n)) (hi : i < n) (hn : n < 2147483648) : mX11_at a (nI i) (S9hk σ I L) = some (I a i) := by
  have hs' : hpS (S9hk σ I L) a = (50, n) := hs
  rw [at_nI hs' hn (by omega), if_pos hi]; rfl
theorem S9table_ok {la i : Nat} (h : isLa la) (hi : i < 31) : mX1_table la (nI i) (S9hk σ I L) = some (la + 16 + 2 * i) := by
  unfold mX1_table
  have h13 : hpS (S9hk σ I L) (la + 13) = (70, 31) := S9SH_la13 (n := gN σ) h
  have l2 : ldR 10 (la + 13) (nI i) (S9hk σ I L) = some (la + 16 + 2 * i) := by
    rw [ldR_ok (c := 10) (n := 31) h13 hi (by omega), S9hpR_hk, S9RF_laT σ h hi]
  have h0 : (hpS (S9hk σ I L) la).1 = 2 := by rw [S9hpS_hk, S9SH_la0 h]
  rw [if_pos h0, if_neg (nI_pos (by omega)), S9gR_la h, obind, S9RF_la_18 σ h, aLen_ok h13 rfl, obind, c_lt hi (by omega), obind, l2, obind, if_pos (by omega), obind, l2, obind]
theorem S9wonBy_ok {la k : Nat} (h : isLa la) (hk' : k < 5) : mX1_wonBy la (nI k) (S9hk σ I L) = some (la + 16 + 2 * (26 + k)) := by
  unfold mX1_wonBy
  have h0 : (hpS (S9hk σ I L) la).1 = 2 := by rw [S9hpS_hk, S9SH_la0 h]
  rw [if_pos h0, L26, nI_add, S9table_ok h (by omega), obind]
end CB
section Names
variable {σ : Sg} {I I' J J' I1 I2 I3 Ja : Nat → Nat → Int32} {L L' M M' L1 L2 : Nat → Nat → Int64} {X : Nat → Nat} {n m i la t1 t2 : Nat} {W : Nat → List Nat}
theorem S9la_sh {la : Nat} (h : isLa la) (g : Nat) : S9SH g la = (2, 20) ∧ S9SH g (la + 2) = (50, 13) := by
  rcases h with rfl | rfl <;> exact ⟨rfl, rfl⟩
end Names
section Limit
variable {σ τ : Sg} {I I' J J' I1 I2 I3 Ja : Nat → Nat → Int32} {L L' M M' L1 L2 : Nat → Nat → Int64} {X : Nat → Nat} {n m i la off t1 t2 fl pl dp h0 N kk lim : Nat} {W : Nat → List Nat} {T T' : Nat → Nat}
theorem S9sI_la (hla : isLa la) (k : Nat) (v : Int32) : sI 1 k la v (S9hk σ I L) = some (S9hk σ (rowUp I la (updA (I la) k v)) L) := by
  rw [sI_ok (by rw [S9hpS_hk, (S9la_sh hla (gN σ)).1]), S9setI_hk, S9hpI_hk']
end Limit
section Finish
variable {σ : Sg} {I I' J J' I1 I2 I3 Ja : Nat → Nat → Int32} {L L' M M' L1 L2 : Nat → Nat → Int64} {X : Nat → Nat} {n m i i2 la off t1 t2 fl pl dp h0 N kk lim s k b j w r c : Nat} {W : Nat → List Nat} {T T' : Nat → Nat}
theorem S9slaw (hla : isLa la) : (hpS (S9hk σ I L) la).1 = 2 := by rw [S9hpS_hk, S9SH_la0 hla]
theorem S9cweight_ok (hla : isLa la) (h1 : I la 1 = nI (T 1)) (h8 : T 1 ≤ 8) (ho : ∀ f, f < T 1 → I (la + 1) f = nI (T (8 + f)) ∧ T (8 + f) ≤ 9) (hw : w < 256) : mX1_weightOf la (nI w) (S9hk σ I L) = some (nI (wt T w (T 1))) := by
  unfold mX1_weightOf mX1_weightOf_l4
  rw [if_pos (S9slaw hla)]
  refine lp_traj (f := fun s : Int32 × Int32 => mX1_weightOf_l4f la (nI w) (S9hk σ I L) s.1 s.2) (T 1) (fun f => (nI (wt T w f), nI f)) _ (fun f hf => ?_) ?_
  · obtain ⟨o1, o2⟩ := ho f hf
    show mX1_weightOf_l4f la (nI w) (S9hk σ I L) (nI (wt T w f)) (nI f) = _
    unfold mX1_weightOf_l4f mX1_weightOf_b43
    have at1 : mX11_at (la + 1) (nI f) (S9hk σ I L) = some (nI (T (8 + f))) := by rw [S9at_r (S9SH_la1 hla) (by omega) (by omega), o1]
    have ws : wt T w (f + 1) = wt T w f * (if w.testBit f = true then T (8 + f) else 10 - T (8 + f)) := rfl
    rw [S9gI_la hla, obind, h1, c_lt hf (by omega), has_nI (by omega) (by omega), obind, bI_if0, ws]
    cases hb : w.testBit f
    · rw [if_pos rfl, if_neg (by decide), S9gR_la hla, obind, S9RF_la_6 σ hla, at1, obind, show (10 : Int32) = nI 10 from rfl, nI_sub (by omega), pk_mul, nI_1]
    · rw [if_neg (by decide), if_pos rfl, S9gR_la hla, obind, S9RF_la_6 σ hla, at1, obind, pk_mul, nI_1]
  · show mX1_weightOf_l4f la (nI w) (S9hk σ I L) (nI (wt T w (T 1))) (nI (T 1)) = _
    unfold mX1_weightOf_l4f
    rw [S9gI_la hla, obind, h1, c_nlt (Nat.le_refl _) (by omega), xts]
theorem S9fin103 (hla : isLa la) (h1 : I la 1 = nI (T 1)) (h8 : T 1 ≤ 8) (ho : ∀ f, f < T 1 → I (la + 1) f = nI (T (8 + f)) ∧ T (8 + f) ≤ 9) : ∃ r, mX1_finish_l103 la 0 (S9hk σ I L) = some (S9hk σ (rowUp I (la + 10) r) L) ∧ ∀ w, w < 256 → r w = nI (wt T w (T 1)) := by
  have h0 : S9hk σ I L = S9hk σ (rowUp I (la + 10) (I (la + 10))) L := by rw [rowUp_id]
  rw [h0]
  unfold mX1_finish_l103
  obtain ⟨o, e, r, rfl, hr⟩ := lp_inv (f := fun s : Int32 × Hp => mX1_finish_l103f la s.1 s.2) 256 (fun w st => ∃ r, st = (nI w, S9hk σ (rowUp I (la + 10) r) L) ∧ ∀ v, v < w → r v = nI (wt T v (T 1)))
    (fun o => ∃ r, o = S9hk σ (rowUp I (la + 10) r) L ∧ ∀ v, v < 256 → r v = nI (wt T v (T 1)))
    (fun w st hw hQ => by
      obtain ⟨r, rfl, hr⟩ := hQ
      refine ⟨_, ?_, updA r w (nI (wt T w (T 1))), rfl, fun v hv => ?_⟩
      · show mX1_finish_l103f la (nI w) (S9hk σ (rowUp I (la + 10) r) L) = _
        unfold mX1_finish_l103f
        rw [if_pos (show nI w < (256 : Int32) from nI_lt (b := 256) hw (by omega)), S9gR_la hla, obind, S9RF_la_16 σ hla, S9cweight_ok (T := T) hla (by rw [rowUp_ne _ _ (by omega)]; exact h1) h8 (fun f hf => by rw [rowUp_ne _ _ (by omega)]; exact ho f hf) hw, obind, put_nI (n := 256) (by rw [S9hpS_hk]; exact S9SH_la10 hla) (by omega) hw, obind, S9setI_hk, S9hpI_hk', rowUp_same, rowUp_two, nI_1]
      · rw [updA_at]
        by_cases q : v = w
        · rw [if_pos q, q]
        · rw [if_neg q]; exact hr v (by omega))
    (fun st hQ => by
      obtain ⟨r, rfl, hr⟩ := hQ
      refine ⟨_, ?_, r, rfl, hr⟩
      show mX1_finish_l103f la (nI 256) (S9hk σ (rowUp I (la + 10) r) L) = _
      unfold mX1_finish_l103f
      rw [if_neg (show ¬ nI 256 < (256 : Int32) by decide), xts])
    (s := ((0 : Int32), S9hk σ (rowUp I (la + 10) (I (la + 10))) L)) ⟨_, rfl, fun v hv => absurd hv (Nat.not_lt_zero _)⟩
  exact ⟨r, e, hr⟩
theorem S9cwon_ok (hla : isLa la) (h : LT I la T) (hS : SP T lim) (hB : TBs L la T) (hk' : k < T 2) : ∃ r, mX1_finishWon la (nI k) (la + 16 + 2 * (26 + k)) (S9hk σ I L) = some (S9hk σ I (rowUp L (la + 17 + 2 * (26 + k)) r)) ∧ Rw r (won T k) := by
  obtain ⟨l1, l2, l4, l3, l66⟩ := h
  obtain ⟨⟨a1, a2, a3, a4, a5, a6, a7⟩, b, c, d, ee, ff, gq, hh, w0, w01, w02⟩ := id hS
  have c3 := (c k hk').2.2.1
  obtain ⟨r0, e0, hr0⟩ := fill_ok (S9wTab (σ := σ) (I := I) (L := L) (i := 26 + k) hla (by omega))
  rw [S9setL_hk] at e0
  have l39 : ∀ r, Rw r (fun w => allB (fun i => ev T (T (31 + 4 * k + i)) w) (T (26 + k))) → ∃ r', mX1_finishWon_l39 la (nI k) (la + 16 + 2 * (26 + k)) 0 (S9hk σ I (rowUp L (la + 17 + 2 * (26 + k)) r)) = some (S9hk σ I (rowUp L (la + 17 + 2 * (26 + k)) r')) ∧ Rw r' (won T k) := fun r hr => by
    unfold mX1_finishWon_l39
    obtain ⟨o, e, r', rfl, hr'⟩ := lp_inv (f := fun s : Int32 × Hp => mX1_finishWon_l39f la (nI k) (la + 16 + 2 * (26 + k)) s.1 s.2) (T 4) (fun p st => ∃ r, st = (nI p, S9hk σ I (rowUp L (la + 17 + 2 * (26 + k)) r)) ∧ Rw r (fun w => allB (fun i => ev T (T (31 + 4 * k + i)) w) (T (26 + k)) && allB (fun p => !(decide (T (66 + p) = k) && ev T (T (72 + p)) w)) p))
      (fun o => ∃ r, o = S9hk σ I (rowUp L (la + 17 + 2 * (26 + k)) r) ∧ Rw r (won T k))
      (fun p st hp hQ => by
        obtain ⟨r, rfl, hr⟩ := hQ
        have p66 := (ee p hp).1
        have st : ∀ (o : Option ((Int32 × Hp) ⊕ Hp)), (if T (66 + p) = k then (mX1_table la ((20 : Int32) + nI p) (S9hk σ I (rowUp L (la + 17 + 2 * (26 + k)) r))).bind fun v10 => (mX10_minus (la + 16 + 2 * (26 + k)) v10 (S9hk σ I (rowUp L (la + 17 + 2 * (26 + k)) r))).bind fun h13 => mX1_finishWon_b71 la (nI k) (la + 16 + 2 * (26 + k)) (nI p) h13 else mX1_finishWon_b71 la (nI k) (la + 16 + 2 * (26 + k)) (nI p) (S9hk σ I (rowUp L (la + 17 + 2 * (26 + k)) r))) = o → mX1_finishWon_l39f la (nI k) (la + 16 + 2 * (26 + k)) (nI p) (S9hk σ I (rowUp L (la + 17 + 2 * (26 + k)) r)) = o := fun o h => by
          unfold mX1_finishWon_l39f
          rw [S9gI_la hla, obind, l4, c_lt hp (by omega), S9gR_la hla, obind, S9RF_la_9 σ hla, S9at_r (S9SH_la4 hla) (by omega) (by omega), obind, l66 p hp, c_eqd (by omega) (by omega)]
          exact h
        by_cases q : T (66 + p) = k
        · obtain ⟨r2, me, mr⟩ := minus_ok (h := S9hk σ I (rowUp L (la + 17 + 2 * (26 + k)) r)) (S9wTab (σ := σ) (I := I) (i := 26 + k) hla (by omega)) (S9wTab (σ := σ) (I := I) (i := 20 + p) hla (by omega)) (by omega) (by show Rw ((rowUp L (la + 17 + 2 * (26 + k)) r) (la + 17 + 2 * (26 + k))) _; rw [rowUp_same]; exact hr) (by show Rw ((rowUp L (la + 17 + 2 * (26 + k)) r) (la + 17 + 2 * (20 + p))) _; rw [rowUp_ne _ _ (by omega)]; exact hB.2 p hp)
          rw [S9setL_hk, rowUp_two] at me
          refine ⟨_, st _ ?_, r2, rfl, mr.cg fun w _ => ?_⟩
          · rw [if_pos q, show (20 : Int32) = nI 20 from rfl, nI_add, S9table_ok hla (by omega), obind, me, obind]
            unfold mX1_finishWon_b71
            rw [nI_1]
          · show _ = (_ && (_ && !(decide (T (66 + p) = k) && ev T (T (72 + p)) w)))
            rw [decide_eq_true q, Bool.true_and, Bool.and_assoc]
        · refine ⟨_, st _ ?_, r, rfl, hr.cg fun w _ => ?_⟩
          · rw [if_neg q]
            unfold mX1_finishWon_b71
            rw [nI_1]
          · show _ = (_ && (_ && !(decide (T (66 + p) = k) && ev T (T (72 + p)) w)))
            rw [decide_eq_false q, Bool.false_and, Bool.not_false, Bool.and_true])
      (fun st hQ => by
        obtain ⟨r, rfl, hr⟩ := hQ
        refine ⟨_, ?_, r, rfl, hr⟩
        show mX1_finishWon_l39f la (nI k) (la + 16 + 2 * (26 + k)) (nI (T 4)) (S9hk σ I (rowUp L (la + 17 + 2 * (26 + k)) r)) = _
        unfold mX1_finishWon_l39f
        rw [S9gI_la hla, obind, l4, c_nlt (Nat.le_refl _) (by omega), xts])
      (s := ((0 : Int32), S9hk σ I (rowUp L (la + 17 + 2 * (26 + k)) r))) ⟨r, rfl, hr.cg fun w _ => by show _ = (_ && true); rw [Bool.and_true]⟩
    exact ⟨r', e, hr'⟩
  unfold mX1_finishWon mX1_finishWon_l6
  rw [if_pos (S9slaw hla), e0, obind]
  obtain ⟨o, e, r', rfl, hr'⟩ := lp_inv (f := fun s : Int32 × Hp => mX1_finishWon_l6f la (nI k) (la + 16 + 2 * (26 + k)) s.1 s.2) (T (26 + k)) (fun i st => ∃ r, st = (nI i, S9hk σ I (rowUp L (la + 17 + 2 * (26 + k)) r)) ∧ Rw r (fun w => allB (fun i => ev T (T (31 + 4 * k + i)) w) i))
    (fun o => ∃ r, o = S9hk σ I (rowUp L (la + 17 + 2 * (26 + k)) r) ∧ Rw r (won T k))
    (fun i st hi hQ => by
      obtain ⟨r, rfl, hr⟩ := hQ
      obtain ⟨r2, me, mr⟩ := and_ok (h := S9hk σ I (rowUp L (la + 17 + 2 * (26 + k)) r)) (S9wTab (σ := σ) (I := I) (i := 26 + k) hla (by omega)) (S9wTab (σ := σ) (I := I) (i := 4 * k + i) hla (by omega)) (by omega) (by show Rw ((rowUp L (la + 17 + 2 * (26 + k)) r) (la + 17 + 2 * (26 + k))) _; rw [rowUp_same]; exact hr) (by show Rw ((rowUp L (la + 17 + 2 * (26 + k)) r) (la + 17 + 2 * (4 * k + i))) _; rw [rowUp_ne _ _ (by omega)]; exact hB.1 k hk' i hi)
      rw [S9setL_hk, rowUp_two] at me
      refine ⟨_, ?_, r2, rfl, mr⟩
      show mX1_finishWon_l6f la (nI k) (la + 16 + 2 * (26 + k)) (nI i) (S9hk σ I (rowUp L (la + 17 + 2 * (26 + k)) r)) = _
      unfold mX1_finishWon_l6f
      rw [S9gR_la hla, obind, S9RF_la_8 σ hla, S9at_r (S9SH_la3 hla) (by omega) (by omega), obind, l3 k hk', c_lt hi (by omega), needSlot_nI, obind, S9table_ok hla (by omega), obind, me, obind, nI_1])
    (fun st hQ => by
      obtain ⟨r, rfl, hr⟩ := hQ
      obtain ⟨r', e, hr'⟩ := l39 r hr
      refine ⟨_, ?_, r', rfl, hr'⟩
      show mX1_finishWon_l6f la (nI k) (la + 16 + 2 * (26 + k)) (nI (T (26 + k))) (S9hk σ I (rowUp L (la + 17 + 2 * (26 + k)) r)) = _
      unfold mX1_finishWon_l6f
      rw [S9gR_la hla, obind, S9RF_la_8 σ hla, S9at_r (S9SH_la3 hla) (by omega) (by omega), obind, l3 k hk', c_nlt (Nat.le_refl _) (by omega), e, xts])
    (s := ((0 : Int32), S9hk σ I (rowUp L (la + 17 + 2 * (26 + k)) r0))) ⟨r0, rfl, hr0⟩
  exact ⟨r', e, hr'⟩
theorem S9fin77 (hla : isLa la) (h : LT I la T) (hS : SP T lim) (hB : TBs L la T) (ho : ∀ f, f < T 1 → I (la + 1) f = nI (T (8 + f))) :
    ∃ r L', mX1_finish_l77 la 0 (S9hk σ I L) = some (S9hk σ (rowUp I (la + 10) r) L') ∧ (∀ w, w < 256 → r w = nI (wt T w (T 1))) ∧ (∀ k, k < T 2 → Rw (L' (la + 17 + 2 * (26 + k))) (won T k)) ∧ ∀ x, (x < la + 69 ∨ la + 78 ≤ x) → L' x = L x := by
  have a1 := hS.1.1
  have a2 := hS.1.2.1
  unfold mX1_finish_l77
  obtain ⟨o, e, r, L', rfl, hr⟩ := lp_inv (f := fun s : Int32 × Hp => mX1_finish_l77f la s.1 s.2) (T 2) (fun k st => ∃ L', st = (nI k, S9hk σ I L') ∧ (∀ x, x < k → Rw (L' (la + 17 + 2 * (26 + x))) (won T x)) ∧ ∀ x, (x < la + 69 ∨ la + 78 ≤ x) → L' x = L x)
    (fun o => ∃ r L', o = S9hk σ (rowUp I (la + 10) r) L' ∧ (∀ w, w < 256 → r w = nI (wt T w (T 1))) ∧ (∀ k, k < T 2 → Rw (L' (la + 17 + 2 * (26 + k))) (won T k)) ∧ ∀ x, (x < la + 69 ∨ la + 78 ≤ x) → L' x = L x)
    (fun k st hk' hQ => by
      obtain ⟨L', rfl, q1, q2⟩ := hQ
      have c3 : ∀ x, x < T 2 → T (26 + x) ≤ 4 := fun x hx => (hS.2.2.1 x hx).2.2.1
      obtain ⟨r, e, hr⟩ := S9cwon_ok (σ := σ) (I := I) (L := L') hla h hS ⟨fun x hx i hi => by have := c3 x hx; rw [q2 _ (by omega)]; exact hB.1 x hx i hi, fun p hp => by have := hS.1.2.2.2.1; rw [q2 _ (by omega)]; exact hB.2 p hp⟩ hk'
      refine ⟨_, ?_, rowUp L' (la + 17 + 2 * (26 + k)) r, rfl, fun x hx => ?_, fun x hx => ?_⟩
      · show mX1_finish_l77f la (nI k) (S9hk σ I L') = _
        unfold mX1_finish_l77f
        rw [S9gI_la hla, obind, h.2.1, c_lt hk' (by omega), S9wonBy_ok hla (by omega), obind, e, obind, nI_1]
      · by_cases q : x = k
        · rw [q, rowUp_same]; exact hr
        · rw [rowUp_ne _ _ (by omega)]; exact q1 x (by omega)
      · rw [rowUp_ne _ _ (by omega)]; exact q2 x hx)
    (fun st hQ => by
      obtain ⟨L', rfl, q1, q2⟩ := hQ
      obtain ⟨r, e, hr⟩ := S9fin103 (σ := σ) (L := L') hla h.1 a1 (fun f hf => ⟨ho f hf, (hS.2.1 f hf).2⟩)
      refine ⟨_, ?_, r, L', rfl, hr, q1, q2⟩
      show mX1_finish_l77f la (nI (T 2)) (S9hk σ I L') = _
      unfold mX1_finish_l77f
      rw [S9gI_la hla, obind, h.2.1, c_nlt (Nat.le_refl _) (by omega), e, xts])
    (s := ((0 : Int32), S9hk σ I L)) ⟨L, rfl, fun x hx => absurd hx (Nat.not_lt_zero _), fun _ _ => rfl⟩
  exact ⟨r, L', e, hr⟩
end Finish
section Fin
variable {σ : Sg} {I I' J J' I1 I2 I3 Ja : Nat → Nat → Int32} {L L' M M' L1 L2 : Nat → Nat → Int64} {X : Nat → Nat} {n m i i2 la off t1 t2 fl pl dp h0 N kk lim s k b j w r c : Nat} {W : Nat → List Nat} {T T' : Nat → Nat}
theorem S9fin34 (hla : isLa la) (h : LT I la T) (hS : SP T lim) (h7 : T 7 ≤ 480) (hO : SOk L) (hc : ∀ x, x < T 7 → I (la + 7) x = nI (cc (cT T x))) (hq : ∀ q, q < 26 → sl I la T q) (ho : ∀ f, f < T 1 → I (la + 1) f = nI (T (8 + f)))
    (hk4 : ∀ k, k < T 2 → ∀ i, i < T (26 + k) → I (la + 8) (4 * k + i) = nI (T (84 + T (31 + 4 * k + i))) ∧ I (la + 9) (4 * k + i) = nI (T (117 + T (31 + 4 * k + i)))) (hp : ∀ p, p < T 4 → I (la + 8) (20 + p) = nI (T (84 + T (72 + p))) ∧ I (la + 9) (20 + p) = nI (T (117 + T (72 + p)))) :
    ∃ hh r L', mX1_finish_l34 la 108 0 (S9hk σ I L) = some (S9hk σ (rowUp (rowUp I 108 hh) (la + 10) r) L') ∧ (∀ w, w < 256 → r w = nI (wt T w (T 1))) ∧ TBs L' la T ∧ (∀ k, k < T 2 → Rw (L' (la + 17 + 2 * (26 + k))) (won T k)) ∧ ∀ x, (x < 109 ∨ 111 < x) → (x < la + 17 ∨ la + 78 ≤ x) → L' x = L x := by
  have hla' : la = 112 ∨ la = 190 := hla
  have sS := hS
  have h0 : S9hk σ I L = S9hk σ (rowUp I 108 (I 108)) L := by rw [rowUp_id]
  rw [h0]
  unfold mX1_finish_l34
  obtain ⟨o, e, hh, r, L', rfl, hr⟩ := lp_inv (f := fun s : Int32 × Hp => mX1_finish_l34f la 108 s.1 s.2) 26 (fun q st => ∃ hh L', st = (nI q, S9hk σ (rowUp I 108 hh) L') ∧ (∀ x, x < q → ∀ e, e < T 6 → I (la + 8) x = nI (T (84 + e)) → I (la + 9) x = nI (T (117 + e)) → Rw (L' (la + 17 + 2 * x)) (ev T e)) ∧ ∀ x, (x < 109 ∨ 111 < x) → (x < la + 17 ∨ la + 69 ≤ x) → L' x = L x)
    (fun o => ∃ hh r L', o = S9hk σ (rowUp (rowUp I 108 hh) (la + 10) r) L' ∧ (∀ w, w < 256 → r w = nI (wt T w (T 1))) ∧ TBs L' la T ∧ (∀ k, k < T 2 → Rw (L' (la + 17 + 2 * (26 + k))) (won T k)) ∧ ∀ x, (x < 109 ∨ 111 < x) → (x < la + 17 ∨ la + 78 ≤ x) → L' x = L x)
    (fun q st hq26 hQ => by
      obtain ⟨hh, L1, rfl, q1, q2⟩ := hQ
      obtain ⟨a, b, s1, s2, s3, s4, s5⟩ := hq q hq26
      have hO1 : SOk L1 := fun f hf => by rw [q2 2 (by omega) (by omega)]; exact hO f hf
      obtain ⟨hh', y, n', z, r, te, tr⟩ := S9tab_ok (σ := σ) (I := rowUp I 108 hh) (L := L1) hO1 (la + 7) (S9SH_la7 hla) (by omega) (cT T) a b s3 (by omega) s5 (fun j h1 h2 => by rw [rowUp_ne _ _ (by omega)]; exact hc j (by omega)) (la + 16 + 2 * q) (la + 17 + 2 * q) (fun _ _ => S9wTab hla (by omega)) (by omega) (by omega) (by omega) (by omega)
      have te : mX4_tabulate 108 (la + 7) (nI a) (nI b) (la + 16 + 2 * q) (S9hk σ (rowUp I 108 hh) L1) = some (S9hk σ (rowUp (rowUp I 108 hh) 108 hh') (rowUp (rowUp (rowUp (rowUp L1 (la + 17 + 2 * q) r) 109 y) 110 n') 111 z)) := te
      rw [rowUp_two] at te
      have l109 : ∀ x, x < 109 ∨ 111 < x → rowUp (rowUp (rowUp (rowUp L1 (la + 17 + 2 * q) r) 109 y) 110 n') 111 z x = rowUp L1 (la + 17 + 2 * q) r x := fun x hx => by rw [rowUp_ne _ _ (by omega), rowUp_ne _ _ (by omega), rowUp_ne _ _ (by omega)]
      refine ⟨(nI (q + 1), S9hk σ (rowUp I 108 hh') (rowUp (rowUp (rowUp (rowUp L1 (la + 17 + 2 * q) r) 109 y) 110 n') 111 z)), ?_, hh', rowUp (rowUp (rowUp (rowUp L1 (la + 17 + 2 * q) r) 109 y) 110 n') 111 z, rfl, fun x hx e he e1 e2 => ?_, fun x h1 h2 => ?_⟩
      · show mX1_finish_l34f la 108 (nI q) (S9hk σ (rowUp I 108 hh) L1) = _
        unfold mX1_finish_l34f
        rw [if_pos (show nI q < (26 : Int32) from nI_lt (b := 26) hq26 (by omega)), S9gR_la hla, obind, S9RF_la_12 σ hla, S9gR_la hla, obind, S9RF_la_14 σ hla, S9at_r (S9SH_la8 hla) (by omega) (by omega), obind, S9gR_la hla, obind, S9RF_la_15 σ hla, S9at_r (S9SH_la9 hla) (by omega) (by omega), obind, rowUp_ne _ _ (by omega), s1, rowUp_ne _ _ (by omega), s2, S9table_ok hla (by omega), obind, te, obind, nI_1]
      · rw [l109 _ (by omega)]
        have ew := sS.ew he
        by_cases e0 : x = q
        · subst e0
          rw [rowUp_same]
          rw [s1] at e1
          rw [s2] at e2
          have ea : a = T (84 + e) := (nI_eq (by omega) (by have := ew.1.1; omega)).mp e1
          have eb : b = T (117 + e) := (nI_eq (by omega) (by omega)).mp e2
          subst ea
          subst eb
          exact tr (by rw [ew.1.2.2]; exact Nat.le_refl _)
        · rw [rowUp_ne _ _ (by omega)]; exact q1 x (by omega) e he e1 e2
      · rw [l109 x h1, rowUp_ne _ _ (by omega)]; exact q2 x h1 h2)
    (fun st hQ => by
      obtain ⟨hh, L1, rfl, q1, q2⟩ := hQ
      have hB : TBs L1 la T := ⟨fun k hk' i hi => by
          have c3 := (sS.2.2.1 k hk').2.2
          exact q1 (4 * k + i) (by have := sS.1.2.1; omega) _ (c3.2.1 i hi) (hk4 k hk' i hi).1 (hk4 k hk' i hi).2, fun p hp' => q1 (20 + p) (by have := sS.1.2.2.2.1; omega) _ (sS.2.2.2.2.1 p hp').2 (hp p hp').1 (hp p hp').2⟩
      have hL : LT (rowUp I 108 hh) la T := by
        unfold LT at h ⊢
        rw [rowUp_ne (a := 108) (b := la) _ _ (by omega), rowUp_ne (a := 108) (b := la + 3) _ _ (by omega), rowUp_ne (a := 108) (b := la + 4) _ _ (by omega)]
        exact h
      obtain ⟨r, L', e, f1, f2, f3⟩ := S9fin77 (σ := σ) hla hL sS hB (fun f hf => by rw [rowUp_ne _ _ (by omega)]; exact ho f hf)
      have c4 : ∀ k, k < T 2 → T (26 + k) ≤ 4 := fun k hk' => (sS.2.2.1 k hk').2.2.1
      refine ⟨_, ?_, hh, r, L', rfl, f1, ⟨fun k hk' i hi => by have := c4 k hk'; have := sS.1.2.1; rw [f3 _ (by omega)]; exact hB.1 k hk' i hi, fun p hp' => by have := sS.1.2.2.2.1; rw [f3 _ (by omega)]; exact hB.2 p hp'⟩, f2, fun x h1 h2 => by rw [f3 x (by omega)]; exact q2 x h1 (by omega)⟩
      show mX1_finish_l34f la 108 (nI 26) (S9hk σ (rowUp I 108 hh) L1) = _
      unfold mX1_finish_l34f
      rw [if_neg (show ¬ nI 26 < (26 : Int32) by decide), e, xts])
    (s := ((0 : Int32), S9hk σ (rowUp I 108 (I 108)) L)) ⟨_, _, rfl, fun x hx => absurd hx (Nat.not_lt_zero _), fun _ _ _ => rfl⟩
  exact ⟨hh, r, L', e, hr⟩
theorem S9finish_ok (hla : isLa la) (hs : s = 268 ∨ s = 275) (hS : SP T lim) (hD : SD I L la s T lim) (hO : SOk L) (h7 : T 7 ≤ 480) (c1 : I la 1 = nI (T 1)) (c2 : I la 2 = nI (T 2)) (c13 : I la 13 = nI (T 7)) (c7 : ∀ x, x < T 7 → I (la + 7) x = nI (cc (cT T x))) :
    ∃ I' L', mX1_finish la 108 (S9hk σ I L) = some (S9hk σ I' L') ∧ CLw I' L' la T ∧ (∀ x, x ≠ 108 → x ≠ la → x ≠ la + 10 → I' x = I x) ∧ ∀ x, (x < 109 ∨ 111 < x) → (x < la + 12 ∨ la + 78 ≤ x) → L' x = L x := by
  have hla' : la = 112 ∨ la = 190 := hla
  obtain ⟨⟨d0, d3, d4, d5, dm⟩, dO, dk, ds, dp', dq, ⟨dj, d2⟩, dst⟩ := hD
  obtain ⟨I1, hI1⟩ : ∃ I1, I1 = rowUp I la (updA (I la) 5 (nI (T 5))) := ⟨_, rfl⟩
  have ix : ∀ x, x ≠ la → I1 x = I x := fun x hx => by rw [hI1, rowUp_ne _ _ hx]
  have ik : ∀ k, k ≠ 5 → I1 la k = I la k := fun k hk' => by rw [hI1, rowUp_same, updA_ne _ _ hk']
  have i5 : I1 la 5 = nI (T 5) := by rw [hI1, rowUp_same, updA_same]
  obtain ⟨r, ke, kr⟩ := S9keepFirst_ok (σ := σ) (I := I1) hO (S9wPos hla) (by omega) dm hS.1.1
  have hO2 : SOk (rowUp L (la + 12) r) := fun f hf => by rw [rowUp_ne _ _ (by omega)]; exact hO f hf
  obtain ⟨hh, r2, L', e, f1, f2, f3, f4⟩ := S9fin34 (σ := σ) (I := I1) (L := rowUp L (la + 12) r) hla ⟨by rw [ik 1 (by omega)]; exact c1, by rw [ik 2 (by omega)]; exact c2, by rw [ik 4 (by omega)]; exact d4, fun k hk' => by rw [ix _ (by omega)]; exact (dk k hk').1, fun p hp' => by rw [ix _ (by omega)]; exact (dp' p hp').1⟩ hS h7 hO2 (fun x hx => by rw [ix _ (by omega)]; exact c7 x hx) (fun q hq => by
    obtain ⟨a, b, s1, s2, s3⟩ := dq q hq
    exact ⟨a, b, by rw [ix _ (by omega)]; exact s1, by rw [ix _ (by omega)]; exact s2, s3⟩) (fun f hf => by rw [ix _ (by omega)]; exact dO f hf) (fun k hk' i hi => by rw [ix _ (by omega), ix _ (by omega)]; exact (dk k hk').2.2 i hi) (fun p hp' => by rw [ix _ (by omega), ix _ (by omega)]; exact (dp' p hp').2)
  obtain ⟨I2, hI2⟩ : ∃ I2, I2 = rowUp (rowUp I1 108 hh) (la + 10) r2 := ⟨_, rfl⟩
  rw [← hI2] at e
  have jx : ∀ x, x ≠ 108 → x ≠ la + 10 → I2 x = I1 x := fun x a b => by rw [hI2, rowUp_ne _ _ b, rowUp_ne _ _ a]
  have c4 : ∀ k, k < T 2 → T (26 + k) ≤ 4 := fun k hk' => (hS.2.2.1 k hk').2.2.1
  have t2 := hS.1.2.1
  have t4 := hS.1.2.2.2.1
  refine ⟨I2, L', ?_, ⟨⟨?_, ?_, ?_, ?_, ?_, ?_⟩, fun f hf => ?_, fun k hk' => ⟨?_, ?_, f3 k hk', fun i hi => ⟨?_, ?_, f2.1 k hk' i hi⟩⟩, fun p hp' => ⟨?_, ?_, ?_, f2.2 p hp'⟩, fun x hx => ?_, fun w hw => ?_, ?_⟩, fun x a b c => by rw [jx x a c, ix x b], fun x a b => by rw [f4 x a (by omega), rowUp_ne _ _ (by omega)]⟩
  · have b18 : mX1_finish_b18 la 108 la (nI (T 5)) (S9hk σ I L) = some (S9hk σ I2 L') := by
      unfold mX1_finish_b18
      rw [S9sI_la hla, obind, ← hI1, S9gR_la hla, obind, S9RF_la_17 σ hla, S9gI_la hla, obind, ik 1 (by omega), c1, ke, obind, e]
    have l9 := hS.1.2.2.2.2.1
    unfold mX1_finish
    rw [if_pos (S9slaw hla), S9gI_la hla, obind, d5, c_0 (by omega)]
    have a6 := hS.1.2.2.2.2.2.1
    by_cases q : lim = 0
    · rw [if_pos q] at a6
      rw [a6] at b18
      rw [if_pos q]
      exact b18
    · rw [if_neg q] at a6
      rw [a6] at b18
      rw [if_neg q, obind]
      exact b18
  · rw [jx la (by omega) (by omega), ik 0 (by omega)]; exact d0
  · rw [jx la (by omega) (by omega), ik 1 (by omega)]; exact c1
  · rw [jx la (by omega) (by omega), ik 2 (by omega)]; exact c2
  · rw [jx la (by omega) (by omega), ik 4 (by omega)]; exact d4
  · rw [jx la (by omega) (by omega)]; exact i5
  · rw [jx la (by omega) (by omega), ik 13 (by omega)]; exact c13
  · rw [jx _ (by omega) (by omega), ix _ (by omega)]; exact dO f hf
  · rw [jx _ (by omega) (by omega), ix _ (by omega)]; exact (dk k hk').1
  · rw [jx _ (by omega) (by omega), ix _ (by omega)]; exact (dk k hk').2.1
  · rw [jx _ (by omega) (by omega), ix _ (by omega)]; exact ((dk k hk').2.2 i hi).1
  · rw [jx _ (by omega) (by omega), ix _ (by omega)]; exact ((dk k hk').2.2 i hi).2
  · rw [jx _ (by omega) (by omega), ix _ (by omega)]; exact (dp' p hp').1
  · rw [jx _ (by omega) (by omega), ix _ (by omega)]; exact (dp' p hp').2.1
  · rw [jx _ (by omega) (by omega), ix _ (by omega)]; exact (dp' p hp').2.2
  · rw [jx _ (by omega) (by omega), ix _ (by omega)]; exact c7 x hx
  · rw [hI2, rowUp_same]; exact f1 w hw
  · rw [f4 _ (by omega) (by omega), rowUp_same]
    exact kr.cg fun w _ => by unfold poss; rw [Bool.and_comm]
end Fin
section Begin
variable {σ : Sg} {I I' J J' I1 I2 I3 Ja : Nat → Nat → Int32} {L L' M M' L1 L2 : Nat → Nat → Int64} {X : Nat → Nat} {n m i i2 la off t1 t2 fl pl dp h0 N kk lim s k b j w r c v : Nat} {W : Nat → List Nat} {T T' : Nat → Nat}
theorem S9clear_ok (hla : isLa la) : ∃ I' r, mX1_clear la (S9hk σ I L) = some (S9hk σ I' (rowUp L (la + 12) r)) ∧ Rw r (fun _ => true) ∧ (∀ k, (k < 6 ∨ k = 13) → I' la k = 0) ∧ (∀ k, k < 5 → I' (la + 3) k = 0 ∧ I' (la + 5) k = 0) ∧ (∀ q, q < 26 → I' (la + 8) q = 0 ∧ I' (la + 9) q = 0) ∧ ∀ x, (x < la ∨ la + 10 ≤ x) → I' x = I x := by
  obtain ⟨Ia, hIa⟩ : ∃ Ia, Ia = rowUp I la (updA (updA (updA (updA (updA (updA (updA (I la) 0 0) 1 0) 2 0) 3 0) 4 0) 5 0) 13 0) := ⟨_, rfl⟩
  obtain ⟨Ib, hIb⟩ : ∃ Ib, Ib = rowUp (rowUp (rowUp (rowUp Ia (la + 3) (fun k => if k < 5 then 0 else Ia (la + 3) k)) (la + 5) (fun k => if k < 5 then 0 else Ia (la + 5) k)) (la + 8) (fun k => if k < 26 then 0 else Ia (la + 8) k)) (la + 9) (fun k => if k < 26 then 0 else Ia (la + 9) k) := ⟨_, rfl⟩
  obtain ⟨r, fe, fr⟩ := fill_ok (S9wPos (σ := σ) (I := Ib) (L := L) hla)
  rw [S9setL_hk] at fe
  refine ⟨Ib, r, ?_, fr, fun k hk' => ?_, fun k hk' => ⟨?_, ?_⟩, fun q hq => ⟨?_, ?_⟩, fun x hx => ?_⟩
  · unfold mX1_clear
    rw [if_pos (S9slaw hla), S9sI_la hla, obind, S9sI_la hla, obind, rowUp_two, rowUp_same, S9sI_la hla, obind, rowUp_two, rowUp_same, S9sI_la hla, obind, rowUp_two, rowUp_same, S9sI_la hla, obind, rowUp_two, rowUp_same, S9sI_la hla, obind, rowUp_two, rowUp_same, S9sI_la hla, obind, rowUp_two, rowUp_same, ← hIa]
    rw [S9gR_la hla, obind, S9RF_la_8 σ hla, wipe_ok (n := 5) (by rw [S9hpS_hk]; exact S9SH_la3 hla) (by omega), obind, S9setI_hk, S9hpI_hk']
    rw [S9gR_la hla, obind, S9RF_la_10 σ hla, wipe_ok (n := 5) (by rw [S9hpS_hk]; exact S9SH_la5 hla) (by omega), obind, S9setI_hk, S9hpI_hk', rowUp_ne _ _ (show la + 5 ≠ la + 3 by omega)]
    rw [S9gR_la hla, obind, S9RF_la_14 σ hla, wipe_ok (n := 26) (by rw [S9hpS_hk]; exact S9SH_la8 hla) (by omega), obind, S9setI_hk, S9hpI_hk', rowUp_ne _ _ (show la + 8 ≠ la + 5 by omega), rowUp_ne _ _ (show la + 8 ≠ la + 3 by omega)]
    rw [S9gR_la hla, obind, S9RF_la_15 σ hla, wipe_ok (n := 26) (by rw [S9hpS_hk]; exact S9SH_la9 hla) (by omega), obind, S9setI_hk, S9hpI_hk', rowUp_ne _ _ (show la + 9 ≠ la + 8 by omega), rowUp_ne _ _ (show la + 9 ≠ la + 5 by omega), rowUp_ne _ _ (show la + 9 ≠ la + 3 by omega), ← hIb]
    rw [S9gR_la hla, obind, S9RF_la_17 σ hla, fe, obind]
  · rw [hIb, rowUp_ne _ _ (by omega), rowUp_ne _ _ (by omega), rowUp_ne _ _ (by omega), rowUp_ne _ _ (by omega), hIa, rowUp_same]
    simp only [updA_at]
    rcases (show k = 0 ∨ k = 1 ∨ k = 2 ∨ k = 3 ∨ k = 4 ∨ k = 5 ∨ k = 13 by omega) with rfl | rfl | rfl | rfl | rfl | rfl | rfl <;> rfl
  · rw [hIb, rowUp_ne _ _ (by omega), rowUp_ne _ _ (by omega), rowUp_ne _ _ (by omega), rowUp_same]
    exact if_pos hk'
  · rw [hIb, rowUp_ne _ _ (by omega), rowUp_ne _ _ (by omega), rowUp_same]
    exact if_pos hk'
  · rw [hIb, rowUp_ne _ _ (by omega), rowUp_same]
    exact if_pos hq
  · rw [hIb, rowUp_same]
    exact if_pos hq
  · rw [hIb, rowUp_ne _ _ (by omega), rowUp_ne _ _ (by omega), rowUp_ne _ _ (by omega), rowUp_ne _ _ (by omega), hIa, rowUp_ne _ _ (by omega)]
end Begin
