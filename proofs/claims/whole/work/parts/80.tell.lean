section Tell
variable {σ : Sg} {I I' J I1 I2 I3 Ja : Nat → Nat → Int32} {L L' L1 L2 : Nat → Nat → Int64} {T N N' M : Nat → Nat} {a a' : Nat} {P P' : Nat → Nat → Nat} {K : Nat → Bool} {Q : Nat → Nat → Nat}
def tlS (S f how : Nat) : Nat := if how < 2 then S ||| 2 ^ f else rmv S f
def tlO (S f how : Nat) : Nat := if how = 1 then S ||| 2 ^ f else rmv S f
theorem pow8 {f : Nat} (hf : f < 8) : 2 ^ f < 256 := Nat.pow_lt_pow_right (a := 2) (by omega) hf
theorem tlS_lt {S f how : Nat} (hS : S < 256) (hf : f < 8) : tlS S f how < 256 := by
  unfold tlS
  split
  · exact Nat.or_lt_two_pow (n := 8) hS (pow8 hf)
  · exact rmv_lt hS
theorem tlO_lt {S f how : Nat} (hS : S < 256) (hf : f < 8) : tlO S f how < 256 := by
  unfold tlO
  split
  · exact Nat.or_lt_two_pow (n := 8) hS (pow8 hf)
  · exact rmv_lt hS
/-- tell -/
theorem tell_ok {s k f how S So : Nat} (hs : isSt s) (hk' : k < 8) (hf : f < 8) (hh : how < 3) (h5 : I (s + 5) k = nI S) (h6 : I (s + 6) k = nI So) (hS : S < 256) (hSo : So < 256) :
    mX5_tell s (nI k) (nI f) (nI how) (hk σ I L) = some (hk σ (rowUp (rowUp I (s + 5) (updA (I (s + 5)) k (nI (tlS S f how)))) (s + 6) (updA (I (s + 6)) k (nI (tlO So f how)))) L) := by
  have p2 := pow8 hf
  have last : mX5_tell_b42 s (nI k) (nI how) (nI (2 ^ f)) (s + 5) (nI k) (nI (tlS S f how)) (hk σ I L) = some (hk σ (rowUp (rowUp I (s + 5) (updA (I (s + 5)) k (nI (tlS S f how)))) (s + 6) (updA (I (s + 6)) k (nI (tlO So f how)))) L) := by
    unfold mX5_tell_b42 mX5_tell_b82 tlO
    rw [put_nI (n := 8) (sz5 hs) (by omega) hk', obind, setI_hk, hpI_hk', gR_st hs, obind, RF_st_14 σ hs, c_1 (by omega)]
    by_cases e : how = 1
    · rw [if_pos e, if_pos e, obind, at_r (SH_st6 hs) hk' (by omega), obind, rowUp_ne _ _ (by omega), h6, nx_or, put_nI (n := 8) (sz6 hs) (by omega) hk', obind, setI_hk, hpI_hk', rowUp_ne _ _ (by omega)]
    · rw [if_neg e, if_neg e, obind, at_r (SH_st6 hs) hk' (by omega), obind, rowUp_ne _ _ (by omega), h6, nx_not (by omega), put_nI (n := 8) (sz6 hs) (by omega) hk', obind, setI_hk, hpI_hk', rowUp_ne _ _ (by omega)]
      rfl
  unfold mX5_tell
  rw [if_pos (sSt hs), gR_st hs, obind, RF_st_13 σ hs, obind, obind, at_r (SH_st5 hs) hk' (by omega), obind, obind, h5, shl1 (by omega), nx_or, nx_not (by omega), show (2 : Int32) = nI 2 from rfl, c_ltd (by omega) (by omega)]
  unfold tlS at last
  by_cases e : how < 2
  · rw [if_pos e]
    rw [if_pos e] at last
    unfold tlS
    rw [if_pos e]
    exact last
  · rw [if_neg e]
    rw [if_neg e] at last
    unfold tlS
    rw [if_neg e]
    exact last
def cur (S So f : Nat) : Nat := if S.testBit f = true then (if So.testBit f = true then 1 else 0) else 2
theorem EX.tell {k f how : Nat} (hW : WT T) (h : EX T N) (hk' : k < N 18) (hf : f < T 1) (hh : how < 3) : EX T (updA (updA N (19 + 8 * k + 4) (tlS (it N k 4) f how)) (19 + 8 * k + 5) (tlO (it N k 5) f how)) := by
  have w1 := hW.1.2.1
  obtain ⟨N', hN'⟩ : ∃ N', N' = updA (updA N (19 + 8 * k + 4) (tlS (it N k 4) f how)) (19 + 8 * k + 5) (tlO (it N k 5) f how) := ⟨_, rfl⟩
  rw [← hN']
  have nh : ∀ i, i ≠ 19 + 8 * k + 4 → i ≠ 19 + 8 * k + 5 → N' i = N i := fun i h4 h5 => by rw [hN', updA_ne _ _ h5, updA_ne _ _ h4]
  have ih : ∀ k' j, j < 8 → j ≠ 4 → j ≠ 5 → it N' k' j = it N k' j := fun k' j hj h4 h5 => by rw [hN', it_upd (by omega) hj, if_neg (by omega), it_upd (by omega) hj, if_neg (by omega)]
  have i0 : ∀ k', it N' k' 0 = it N k' 0 := fun k' => ih k' 0 (by omega) (by omega) (by omega)
  have i1 : ∀ k', it N' k' 1 = it N k' 1 := fun k' => ih k' 1 (by omega) (by omega) (by omega)
  have i2 : ∀ k', it N' k' 2 = it N k' 2 := fun k' => ih k' 2 (by omega) (by omega) (by omega)
  have i3 : ∀ k', it N' k' 3 = it N k' 3 := fun k' => ih k' 3 (by omega) (by omega) (by omega)
  have i6 : ∀ k', it N' k' 6 = it N k' 6 := fun k' => ih k' 6 (by omega) (by omega) (by omega)
  have i7 : ∀ k', it N' k' 7 = it N k' 7 := fun k' => ih k' 7 (by omega) (by omega) (by omega)
  have i4 : ∀ k', it N' k' 4 = if k' = k then tlS (it N k 4) f how else it N k' 4 := fun k' => by
    rw [hN', it_upd (by omega) (by omega), if_neg (by omega), it_upd (by omega) (by omega)]
    by_cases e : k' = k
    · rw [if_pos ⟨e, rfl⟩, if_pos e]
    · rw [if_neg (fun q => e q.1), if_neg e]
  have i5 : ∀ k', it N' k' 5 = if k' = k then tlO (it N k 5) f how else it N k' 5 := fun k' => by
    rw [hN', it_upd (by omega) (by omega)]
    by_cases e : k' = k
    · rw [if_pos ⟨e, rfl⟩, if_pos e]
    · rw [if_neg (fun q => e q.1), if_neg e, it_upd (by omega) (by omega), if_neg (by omega)]
  have lh : lft T N' = lft T N := lft_hi fun i hi => nh i (by omega) (by omega)
  obtain ⟨⟨g1, g2, g3, g4, g5, g6⟩, g7⟩ := h
  refine ⟨⟨fun f hf => ?_, by rw [nh 16 (by omega) (by omega)]; exact g2, by rw [nh 17 (by omega) (by omega)]; exact g3, by rw [nh 18 (by omega) (by omega)]; exact g4, fun k' hk'' => ?_, by rw [lh]; exact g6⟩, fun hc f hf => ?_⟩
  · unfold kn; rw [nh f (by omega) (by omega), nh (8 + f) (by omega) (by omega)]; exact g1 f hf
  · rw [nh 18 (by omega) (by omega)] at hk''
    obtain ⟨b1, b2, b3, b4, b5, b6, b7⟩ := g5 k' hk''
    simp only [i0, i1, i2, i3, i6, i7, nh 17 (by omega) (by omega)]
    refine ⟨b1, b2, b3, b4, ?_, ?_, b7⟩
    · rw [i4]
      by_cases e : k' = k
      · subst e
        rw [if_pos rfl]
        unfold tlS
        split
        · exact Nat.or_lt_two_pow b5 (Nat.pow_lt_pow_right (a := 2) (by omega) hf)
        · exact Nat.lt_of_le_of_lt (sb_le rmv_sb) b5
      · rw [if_neg e]; exact b5
    · rw [i4, i5]
      by_cases e : k' = k
      · subst e
        rw [if_pos rfl, if_pos rfl]
        have hs : sb (it N k' 5) (it N k' 4) := sb_and' b6
        refine sb_and fun i hi => ?_
        unfold tlO at hi
        unfold tlS
        rcases (show how = 0 ∨ how = 1 ∨ how = 2 by omega) with rfl | rfl | rfl
        · rw [if_neg (by omega)] at hi
          rw [if_pos (by omega), tb_or1, hs i (rmv_sb i hi)]; rfl
        · rw [if_pos rfl, tb_or1] at hi
          rw [if_pos (by omega), tb_or1]
          by_cases e2 : i = f
          · rw [decide_eq_true e2, Bool.or_true]
          · rw [decide_eq_false e2, Bool.or_false] at hi
            rw [hs i hi]; rfl
        · rw [if_neg (by omega)] at hi
          rw [if_neg (by omega)]
          exact rmv_sb2 hs i hi
      · rw [if_neg e, if_neg e]; exact b6
  · rw [nh 16 (by omega) (by omega)] at hc
    rw [nh f (by omega) (by omega)]; exact g7 hc f hf
/-- what both sides do at the end -/
theorem say_fin (h : BI σ I L T N a P K Q) {k f how : Nat} (hk' : k < N 18) (hf : f < T 1) (hh : how < 3) :
    ∃ I1 I2 N' a' P' K' Q', mX11_say_b160 100 (nI k) (nI f) (nI how) (hk σ I L) = some (nI (pc (tlS (it N k 4) f how)), hk σ I1 L) ∧ MI I1 T N ∧ mX12_say_b108 433 (nI k) (nI f) (nI how) (hk σ I1 L) = some (nI (pc (tlS (it N k 4) f how)), hk σ I2 L) ∧ BI σ I2 L T N' a' P' K' Q' ∧ Fr0 I L I2 L ∧ I1 1 = I 1 := by
  obtain ⟨h1, h2, h3, ⟨p1, p2, p3, p4, p5, p6, p7⟩, h5, h6⟩ := id h
  have hW := h1.2.1
  have w1 := hW.1.2.1
  have hsa := h1.1.2.1
  have h18 := h3.1.2.2.2.1.2
  have f8 : f < 8 := by omega
  have p2f := pow8 f8
  obtain ⟨i4', i5', i54⟩ := WN.say hW h3.1 hk'
  have hEX := h3.tell hW hk' hf hh
  obtain ⟨N', hN'⟩ : ∃ N', N' = updA (updA N (19 + 8 * k + 4) (tlS (it N k 4) f how)) (19 + 8 * k + 5) (tlO (it N k 5) f how) := ⟨_, rfl⟩
  rw [← hN'] at hEX
  have nh : ∀ i, i ≠ 19 + 8 * k + 4 → i ≠ 19 + 8 * k + 5 → N' i = N i := fun i h4 h5 => by rw [hN', updA_ne _ _ h5, updA_ne _ _ h4]
  have ih : ∀ k' j, j < 8 → ¬ (k' = k ∧ j = 4) → ¬ (k' = k ∧ j = 5) → it N' k' j = it N k' j := fun k' j hj h4 h5 => by rw [hN', it_upd (by omega) hj, if_neg h5, it_upd (by omega) hj, if_neg h4]
  have e4 : it N' k 4 = tlS (it N k 4) f how := by rw [hN', it_upd (by omega) (by omega), if_neg (by omega), it_upd (by omega) (by omega), if_pos ⟨rfl, rfl⟩]
  have e5 : it N' k 5 = tlO (it N k 5) f how := by rw [hN', it_upd (by omega) (by omega), if_pos ⟨rfl, rfl⟩]
  obtain ⟨Ja, ea, j1, j2, j3, j4⟩ := h.note L
  obtain ⟨_, _, _, _, s5, s6⟩ := j4.2 k hk'
  have et := tell_ok (σ := σ) (L := L) hsa (show k < 8 by omega) f8 hh s5 s6 i4' i5'
  obtain ⟨I1, hI1⟩ : ∃ I1, I1 = rowUp (rowUp Ja (gsa σ + 5) (updA (Ja (gsa σ + 5)) k (nI (tlS (it N k 4) f how)))) (gsa σ + 6) (updA (Ja (gsa σ + 6)) k (nI (tlO (it N k 5) f how))) := ⟨_, rfl⟩
  rw [← hI1] at et
  have r5 : I1 (gsa σ + 5) = updA (Ja (gsa σ + 5)) k (nI (tlS (it N k 4) f how)) := by rw [hI1, rowUp_ne _ _ (by omega), rowUp_same]
  have r6 : I1 (gsa σ + 6) = updA (Ja (gsa σ + 6)) k (nI (tlO (it N k 5) f how)) := by rw [hI1, rowUp_same]
  have ro : ∀ x, x ≠ gsa σ + 5 → x ≠ gsa σ + 6 → I1 x = Ja x := fun x a b => by rw [hI1, rowUp_ne _ _ b, rowUp_ne _ _ a]
  have c1 : CSt I1 (gsa σ) N' := by
    have b3 : bs (fun k => decide (it N' k 6 = 1)) (N 18) = bs (fun k => decide (it N k 6 = 1)) (N 18) := bs_congr fun k' _ => by rw [ih k' 6 (by omega) (by omega) (by omega)]
    refine j4.hi (fun i hi => nh i (by omega) (by omega)) (by rw [ro _ (by omega) (by omega), nh 17 (by omega) (by omega)]; exact j4.1.1) (by rw [ro _ (by omega) (by omega), nh 16 (by omega) (by omega)]; exact j4.1.2.1) (by rw [ro _ (by omega) (by omega), nh 18 (by omega) (by omega)]; exact j4.1.2.2.1) (by rw [ro _ (by omega) (by omega), nh 18 (by omega) (by omega), b3]; exact j4.1.2.2.2.1) (fun k hk' => by rw [ro _ (by omega) (by omega)]) (fun k' hk'' => ?_)
    rw [nh 18 (by omega) (by omega)] at hk''
    obtain ⟨d1, d2, d3, d4, d5, d6⟩ := j4.2 k' hk''
    rw [ih k' 0 (by omega) (by omega) (by omega), ih k' 1 (by omega) (by omega) (by omega), ih k' 2 (by omega) (by omega) (by omega), ih k' 3 (by omega) (by omega) (by omega), ro _ (by omega) (by omega), ro _ (by omega) (by omega), ro _ (by omega) (by omega), ro _ (by omega) (by omega), r5, r6, updA_at, updA_at]
    refine ⟨d1, d2, d3, d4, ?_, ?_⟩
    · by_cases e : k' = k
      · subst e; rw [if_pos rfl, e4]
      · rw [if_neg e, ih k' 4 (by omega) (by omega) (by omega)]; exact d5
    · by_cases e : k' = k
      · subst e; rw [if_pos rfl, e5]
      · rw [if_neg e, ih k' 5 (by omega) (by omega) (by omega)]; exact d6
  have fI1 : ∀ x, (x < gsa σ ∨ gsa σ + 7 ≤ x) → I1 x = Ja x := fun x hx => ro x (by omega) (by omega)
  obtain ⟨hi, m1, r1⟩ := act_cls h hEX j2 c1 fI1 (fun _ _ => rfl)
  obtain ⟨I3, e3, k1, k2, k3⟩ := kact_on (L1 := L) h (by rw [hi 433 (by omega)]) (hi 439 (by omega)) (hi 438 (by omega))
  have m3' : MI I3 T N := m1.fw fun x hx => k2 x (by omega) (by omega)
  obtain ⟨R, hR⟩ : ∃ R, R = updA (updA (I3 438) (19 + 8 * k + 4) (nI (tlS (it N k 4) f how))) (19 + 8 * k + 5) (nI (tlO (it N k 5) f how)) := ⟨_, rfl⟩
  obtain ⟨m3, m2, b1, b2⟩ := act_hi h (fun i hi => nh i (by omega) (by omega)) hEX j1 j2 j3 c1 fI1 (R := R) (fun i hi => by
    rw [hR, hN']
    simp only [updA_at]
    by_cases e : i = 19 + 8 * k + 5
    · rw [if_pos e, if_pos e]
    · rw [if_neg e, if_neg e]
      by_cases e2 : i = 19 + 8 * k + 4
      · rw [if_pos e2, if_pos e2]
      · rw [if_neg e2, if_neg e2]; exact m3'.2.1 i hi) k1 k2 k3
  have tl := tlS_lt (how := how) i4' f8
  have tlo := tlO_lt (how := how) i5' f8
  refine ⟨I1, rowUp I3 438 R, N', _, _, _, _, ?_, m1, ?_, b1, b2, by rw [fI1 1 (by unfold isSt at hsa; omega), j2 1 (by omega)]⟩
  · unfold mX11_say_b160
    rw [gHist, obind, gSa, ea, obind, gSa, et, obind, gSa, gR_st hsa, obind, RF_st_13 σ hsa, at_r (SH_st5 hsa) (by omega) (by omega), obind, r5, updA_same, cbits_ok _ tl, obind]
  · have f2 : ∀ q v w, v = nI (rmv (it N k 5) f) → w = nI (if how = 1 then 2 ^ f else 0) → q = updA (I3 438) (19 + 8 * k + 4) (nI (tlS (it N k 4) f how)) → mX12_say_b171 433 (nI k) 433 (nI k) (nI 5) v w (hk σ (rowUp I3 438 q) L) = some (nI (pc (tlS (it N k 4) f how)), hk σ (rowUp I3 438 R) L) := fun q v w hv hw hq => by
      have e : nI (rmv (it N k 5) f) ||| nI (if how = 1 then 2 ^ f else 0) = nI (tlO (it N k 5) f how) := by
        unfold tlO
        by_cases e : how = 1
        · rw [if_pos e, if_pos e, nx_or]
          congr 1
          apply Nat.eq_of_testBit_eq; intro i
          rw [tb_or1, tb_or1, rmv_bit]
          cases (it N k 5).testBit i <;> cases decide (i = f) <;> rfl
        · rw [if_neg e, if_neg e]; exact nx_or0 _
      unfold mX12_say_b171
      rw [hv, hw, e, puts_ok (by omega) (by omega), obind, hq, ← hR, show (4 : Int32) = nI 4 from rfl, its_n m2.2.1 (by omega) (by omega), obind, e4, mbits_n tl, obind]
    have f1 : ∀ w, w = nI (if how < 2 then 2 ^ f else 0) → mX12_say_b143 433 (nI k) (nI f) (nI how) (nI (2 ^ f) ^^^ (-1 : Int32)) 433 (nI k) 4 (nI (it N k 4) &&& (nI (2 ^ f) ^^^ (-1 : Int32))) w (hk σ I3 L) = some (nI (pc (tlS (it N k 4) f how)), hk σ (rowUp I3 438 R) L) := fun w hw => by
      have e : nI (rmv (it N k 4) f) ||| nI (if how < 2 then 2 ^ f else 0) = nI (tlS (it N k 4) f how) := by
        unfold tlS
        by_cases e : how < 2
        · rw [if_pos e, if_pos e, nx_or]
          congr 1
          apply Nat.eq_of_testBit_eq; intro i
          rw [tb_or1, tb_or1, rmv_bit]
          cases (it N k 4).testBit i <;> cases decide (i = f) <;> rfl
        · rw [if_neg e, if_neg e]; exact nx_or0 _
      unfold mX12_say_b143
      rw [nx_not (by omega), hw, show nI (it N k 4 ^^^ (it N k 4 &&& 2 ^ f)) ||| nI (if how < 2 then 2 ^ f else 0) = nI (tlS (it N k 4) f how) from e, show (4 : Int32) = nI 4 from rfl, puts_ok' (by omega) (by omega), obind]
      have i5r : mX12_its 433 (nI k) (5 : Int32) (hk σ (rowUp I3 438 (updA (I3 438) (19 + 8 * k + 4) (nI (tlS (it N k 4) f how)))) L) = some (nI (it N k 5)) := by
        rw [show (5 : Int32) = nI 5 from rfl, its_ok (by omega) (by omega), rowUp_same, updA_ne _ _ (by omega)]
        exact congrArg some (m3'.2.1 (19 + 8 * k + 5) (by omega))
      rw [i5r, obind, nx_not (by omega), c_1 (by omega), shl1 (by omega)]
      by_cases e1 : how = 1
      · rw [if_pos e1]; exact f2 _ _ _ rfl (by rw [if_pos e1]) rfl
      · rw [if_neg e1]; exact f2 _ _ _ rfl (by rw [if_neg e1]; rfl) rfl
    unfold mX12_say_b108
    rw [e3, obind, show (4 : Int32) = nI 4 from rfl, its_n m3'.2.1 (by omega) (by omega), obind, shl1 (by omega), show (2 : Int32) = nI 2 from rfl, c_ltd (by omega) (by omega)]
    by_cases e : how < 2
    · rw [if_pos e]; exact f1 _ (by rw [if_pos e])
    · rw [if_neg e]; exact f1 _ (by rw [if_neg e]; rfl)
end Tell
