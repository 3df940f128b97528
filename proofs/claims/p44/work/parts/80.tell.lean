section Tell
variable {σ : Sg} {I I' J I1 I2 I3 Ja : Nat → Nat → Int32} {L L' L1 L2 : Nat → Nat → Int64} {T N N' M : Nat → Nat} {a a' : Nat} {P P' : Nat → Nat → Nat} {K : Nat → Bool} {Q : Nat → Nat → Nat}
def tlS (S f how : Nat) : Nat := if how < 2 then S ||| 2 ^ f else rmv S f
def tlO (S f how : Nat) : Nat := if how = 1 then S ||| 2 ^ f else rmv S f
theorem pow8 {f : Nat} (hf : f < 8) : 2 ^ f < 256 := Nat.pow_lt_pow_right (a := 2) (by omega) hf
theorem tlS_lt {S f how : Nat} (hS : S < 256) (hf : f < 8) : tlS S f how < 256 := by
  unfold tlS
  split
  · exact Nat.or_lt_two_pow (n := 8) hS (pow8 hf)
  · exact rmv_lt hS
theorem tlO_lt {S f how : Nat} (hS : S < 256) (hf : f < 8) : tlO S f how < 256 := by
  unfold tlO
  split
  · exact Nat.or_lt_two_pow (n := 8) hS (pow8 hf)
  · exact rmv_lt hS
/-- tell -/
theorem tell_ok {s k f how S So : Nat} (hs : isSt s) (hk' : k < 8) (hf : f < 8) (hh : how < 3) (h5 : I (s + 5) k = nI S) (h6 : I (s + 6) k = nI So) (hS : S < 256) (hSo : So < 256) :
    mX5_tell s (nI k) (nI f) (nI how) (hk σ I L) = some (hk σ (rowUp (rowUp I (s + 5) (updA (I (s + 5)) k (nI (tlS S f how)))) (s + 6) (updA (I (s + 6)) k (nI (tlO So f how)))) L) := by
  have p2 := pow8 hf
  have last : mX5_tell_b42 s (nI k) (nI how) (nI (2 ^ f)) (s + 5) (nI k) (nI (tlS S f how)) (hk σ I L) = some (hk σ (rowUp (rowUp I (s + 5) (updA (I (s + 5)) k (nI (tlS S f how)))) (s + 6) (updA (I (s + 6)) k (nI (tlO So f how)))) L) := by
    unfold mX5_tell_b42 mX5_tell_b82 tlO
    rw [put_nI (n := 8) (sz5 hs) (by omega) hk', obind, setI_hk, hpI_hk', gR_st hs, obind, RF_st_14 σ hs, c_1 (by omega)]
    by_cases e : how = 1
    · rw [if_pos e, if_pos e, obind, at_r (SH_st6 hs) hk' (by omega), obind, rowUp_ne _ _ (by omega), h6, nx_or, put_nI (n := 8) (sz6 hs) (by omega) hk', obind, setI_hk, hpI_hk', rowUp_ne _ _ (by omega)]
    · rw [if_neg e, if_neg e, obind, at_r (SH_st6 hs) hk' (by omega), obind, rowUp_ne _ _ (by omega), h6, nx_not (by omega), put_nI (n := 8) (sz6 hs) (by omega) hk', obind, setI_hk, hpI_hk', rowUp_ne _ _ (by omega)]
      rfl
  unfold mX5_tell
  rw [if_pos (sSt hs), gR_st hs, obind, RF_st_13 σ hs, obind, obind, at_r (SH_st5 hs) hk' (by omega), obind, obind, h5, shl1 (by omega), nx_or, nx_not (by omega), show (2 : Int32) = nI 2 from rfl, c_ltd (by omega) (by omega)]
  unfold tlS at last
  by_cases e : how < 2
  · rw [if_pos e]
    rw [if_pos e] at last
    unfold tlS
    rw [if_pos e]
    exact last
  · rw [if_neg e]
    rw [if_neg e] at last
    unfold tlS
    rw [if_neg e]
    exact last
def cur (S So f : Nat) : Nat := if S.testBit f = true then (if So.testBit f = true then 1 else 0) else 2
theorem EX.tell {k f how : Nat} (hW : WT T) (h : EX T N) (hk' : k < N 18) (hf : f < T 1) (hh : how < 3) : EX T (updA (updA N (19 + 8 * k + 4) (tlS (it N k 4) f how)) (19 + 8 * k + 5) (tlO (it N k 5) f how)) := by
  have w1 := hW.1.2.1
  obtain ⟨N', hN'⟩ : ∃ N', N' = updA (updA N (19 + 8 * k + 4) (tlS (it N k 4) f how)) (19 + 8 * k + 5) (tlO (it N k 5) f how) := ⟨_, rfl⟩
  rw [← hN']
  have nh : ∀ i, i ≠ 19 + 8 * k + 4 → i ≠ 19 + 8 * k + 5 → N' i = N i := fun i h4 h5 => by rw [hN', updA_ne _ _ h5, updA_ne _ _ h4]
  have ih : ∀ k' j, j < 8 → j ≠ 4 → j ≠ 5 → it N' k' j = it N k' j := fun k' j hj h4 h5 => by rw [hN', it_upd (by omega) hj, if_neg (by omega), it_upd (by omega) hj, if_neg (by omega)]
  have i0 : ∀ k', it N' k' 0 = it N k' 0 := fun k' => ih k' 0 (by omega) (by omega) (by omega)
  have i1 : ∀ k', it N' k' 1 = it N k' 1 := fun k' => ih k' 1 (by omega) (by omega) (by omega)
  have i2 : ∀ k', it N' k' 2 = it N k' 2 := fun k' => ih k' 2 (by omega) (by omega) (by omega)
  have i3 : ∀ k', it N' k' 3 = it N k' 3 := fun k' => ih k' 3 (by omega) (by omega) (by omega)
  have i6 : ∀ k', it N' k' 6 = it N k' 6 := fun k' => ih k' 6 (by omega) (by omega) (by omega)
  have i7 : ∀ k', it N' k' 7 = it N k' 7 := fun k' => ih k' 7 (by omega) (by omega) (by omega)
  have i4 : ∀ k', it N' k' 4 = if k' = k then tlS (it N k 4) f how else it N k' 4 := fun k' => by
    rw [hN', it_upd (by omega) (by omega), if_neg (by omega), it_upd (by omega) (by omega)]
    by_cases e : k' = k
    · rw [if_pos ⟨e, rfl⟩, if_pos e]
    · rw [if_neg (fun q => e q.1), if_neg e]
  have i5 : ∀ k', it N' k' 5 = if k' = k then tlO (it N k 5) f how else it N k' 5 := fun k' => by
    rw [hN', it_upd (by omega) (by omega)]
    by_cases e : k' = k
    · rw [if_pos ⟨e, rfl⟩, if_pos e]
    · rw [if_neg (fun q => e q.1), if_neg e, it_upd (by omega) (by omega), if_neg (by omega)]
  have lh : lft T N' = lft T N := lft_hi fun i hi => nh i (by omega) (by omega)
  obtain ⟨⟨g1, g2, g3, g4, g5, g6⟩, g7⟩ := h
  refine ⟨⟨fun f hf => ?_, by rw [nh 16 (by omega) (by omega)]; exact g2, by rw [nh 17 (by omega) (by omega)]; exact g3, by rw [nh 18 (by omega) (by omega)]; exact g4, fun k' hk'' => ?_, by rw [lh]; exact g6⟩, fun hc f hf => ?_⟩
  · unfold kn; rw [nh f (by omega) (by omega), nh (8 + f) (by omega) (by omega)]; exact g1 f hf
  · rw [nh 18 (by omega) (by omega)] at hk''
    obtain ⟨b1, b2, b3, b4, b5, b6, b7⟩ := g5 k' hk''
    simp only [i0, i1, i2, i3, i6, i7, nh 17 (by omega) (by omega)]
    refine ⟨b1, b2, b3, b4, ?_, ?_, b7⟩
    · rw [i4]
      by_cases e : k' = k
      · subst e
        rw [if_pos rfl]
        unfold tlS
        split
        · exact Nat.or_lt_two_pow b5 (Nat.pow_lt_pow_right (a := 2) (by omega) hf)
        · exact Nat.lt_of_le_of_lt (sb_le rmv_sb) b5
      · rw [if_neg e]; exact b5
    · rw [i4, i5]
      by_cases e : k' = k
      · subst e
        rw [if_pos rfl, if_pos rfl]
        have hs : sb (it N k' 5) (it N k' 4) := sb_and' b6
        refine sb_and fun i hi => ?_
        unfold tlO at hi
        unfold tlS
        rcases (show how = 0 ∨ how = 1 ∨ how = 2 by omega) with rfl | rfl | rfl
        · rw [if_neg (by omega)] at hi
          rw [if_pos (by omega), tb_or1, hs i (rmv_sb i hi)]; rfl
        · rw [if_pos rfl, tb_or1] at hi
          rw [if_pos (by omega), tb_or1]
          by_cases e2 : i = f
          · rw [decide_eq_true e2, Bool.or_true]
          · rw [decide_eq_false e2, Bool.or_false] at hi
            rw [hs i hi]; rfl
        · rw [if_neg (by omega)] at hi
          rw [if_neg (by omega)]
          exact rmv_sb2 hs i hi
      · rw [if_neg e, if_neg e]; exact b6
  · rw [nh 16 (by omega) (by omega)] at hc
    rw [nh f (by omega) (by omega)]; exact g7 hc f hf
end Tell
