section Say
variable {σ : Sg} {I I' J I1 I2 I3 Ja : Nat → Nat → Int32} {L L' L1 L2 : Nat → Nat → Int64} {T N N' M : Nat → Nat} {a a' : Nat} {P P' : Nat → Nat → Nat} {K : Nat → Bool} {Q : Nat → Nat → Nat}
/-- an act that leaves the facts as they are -/
theorem act_hi (h : BI σ I L T N a P K Q) (hN : ∀ i, i < 16 → N' i = N i) (hEX : EX T N') (jHC : HC Ja (min (a + 1) 16) (psh a P N)) (jf : ∀ x, (x < 285 ∨ x = 286 ∨ x = 287 ∨ 400 ≤ x) → Ja x = I x) (j5 : ∀ k, k ≠ 3 → k ≠ 4 → Ja 285 k = I 285 k)
    (c1 : CSt I1 (gsa σ) N') (if1 : ∀ x, (x < gsa σ ∨ gsa σ + 7 ≤ x) → I1 x = Ja x) {R : Nat → Int32} (hR : ∀ i, i < 83 → R i = nI (N' i))
    (k1 : HM I3 (min (a + 1) 16) (psh a P N)) (k2 : ∀ x, x ≠ 433 → x ≠ 439 → I3 x = I1 x) (k3 : ∀ k, k ≠ 8 → I3 433 k = I1 433 k) :
    MI I3 T N ∧ MI (rowUp I3 438 R) T N' ∧ BI σ (rowUp I3 438 R) L T N' (min (a + 1) 16) (psh a P N) K Q ∧ Fr0 I L (rowUp I3 438 R) L := by
  obtain ⟨h1, h2, h3, ⟨p1, p2, p3, p4, p5, p6, p7⟩, h5, h6⟩ := id h
  obtain ⟨hi, m1, r1⟩ := act_cls h hEX jf c1 if1 (fun _ _ => rfl)
  have m3 : MI I3 T N := m1.fw fun x hx => k2 x (by omega) (by omega)
  have lh : lft T N' = lft T N := lft_hi hN
  have rn : rN (rowUp I3 438 R) N' := fun i hi => by rw [rowUp_same]; exact hR i hi
  obtain ⟨b1, b2⟩ := act_done h hEX jHC jf j5 c1 if1 (fun _ _ => rfl) (I2 := rowUp I3 438 R) (L1 := L) (k1.fr ⟨by rw [rowUp_ne _ _ (by omega)], by rw [rowUp_ne _ _ (by omega)]⟩) rn (by rw [rowUp_ne _ _ (by omega), lh]; exact m3.2.2.2.2.2.2.2) (fun x a b c d => by rw [rowUp_ne _ _ b, k2 x a c]) (fun k hk' => by rw [rowUp_ne _ _ (by omega), k3 k hk']) (psh_EX p6 p2.1 h3)
  exact ⟨m3, b1.2.1, b1, b2⟩
theorem it_upd {N : Nat → Nat} {k j v k' j' : Nat} (hj : j < 8) (hj' : j' < 8) : it (updA N (19 + 8 * k + j) v) k' j' = if k' = k ∧ j' = j then v else it N k' j' := by
  unfold it
  rw [updA_at]
  by_cases e : k' = k ∧ j' = j
  · rw [if_pos e, if_pos (by omega)]
  · rw [if_neg e, if_neg (by omega)]
theorem bs_onN (p : Nat → Bool) {f n : Nat} (hf : f < n) : bs p n ||| 2 ^ f = bs (updA p f true) n := by
  apply Nat.eq_of_testBit_eq; intro j
  rw [bs_bit, updA_at, tb_or1, bs_bit]
  by_cases e : j = f
  · subst e; rw [decide_eq_true rfl, if_pos rfl, decide_eq_true hf, Bool.or_true]; rfl
  · rw [decide_eq_false e, if_neg e, Bool.or_false]
theorem pc_bs (p : Nat → Bool) {n : Nat} (hn : n ≤ 8) : pc (bs p n) = cntB p n := by
  unfold pc
  rw [cnt_gap hn fun f h1 _ => by rw [bs_bit, decide_eq_false (by omega), Bool.false_and]]
  exact cntB_congr fun f hf => by rw [bs_bit, decide_eq_true hf, Bool.true_and]
theorem puts_ok {k j : Nat} {v : Int32} {r : Nat → Int32} (hk' : k < 8) (hj : j < 8) : mX12_puts 433 (nI k) (nI j) v (hk σ (rowUp I 438 r) L) = some (hk σ (rowUp I 438 (updA r (19 + 8 * k + j) v)) L) := by
  unfold mX12_puts
  rw [if_pos s433, g438, show (19 : Int32) = nI 19 from rfl, show (8 : Int32) = nI 8 from rfl, pk_mul, nI_add, nI_add, st438 _ _ (by omega), obind]
theorem puts_ok' {k j : Nat} {v : Int32} (hk' : k < 8) (hj : j < 8) : mX12_puts 433 (nI k) (nI j) v (hk σ I L) = some (hk σ (rowUp I 438 (updA (I 438) (19 + 8 * k + j) v)) L) := by
  have := puts_ok (σ := σ) (I := I) (L := L) (k := k) (j := j) (v := v) (r := I 438) hk' hj
  rw [rowUp_id] at this
  exact this
/-- strike -/
theorem q_strike (h : BI σ I L T N a P K Q) (x : Int32) : AR σ I L T (mX11_strike 100 x (hk σ I L)) (fun hp => mX12_strike 433 x hp) := by
  obtain ⟨h1, h2, h3, ⟨p1, p2, p3, p4, p5, p6, p7⟩, h5, h6⟩ := id h
  have hW := h1.2.1
  have hsa := h1.1.2.1
  have h18 := h3.1.2.2.2.1.2
  have sl := bs_lt (fun k => decide (it N k 6 = 1)) (N 18)
  have sp := Nat.pow_le_pow_right (n := 2) (by omega) h18
  rcases ixn x (N 18) (by omega) with ⟨k, hk', rfl, hd⟩ | hd
  · have str : mX11_has (nI (bs (fun k => decide (it N k 6 = 1)) (N 18))) (nI k) = some (bI (decide (it N k 6 = 1))) := by
      rw [has_nI (by omega) (by omega), bs_bit, decide_eq_true hk', Bool.true_and]
    by_cases hs : it N k 6 = 1
    · refine AR.no' h (v := -2) ?_ ?_
      · unfold mX11_strike
        rw [if_pos s100, cisCount_ok h1, obind, bI_if0, hd, if_neg nTF, gSa, gI_st hsa, obind, h1.2.2.2.2.1.2.2.2.1, str, obind, bI_if0, decide_eq_true hs, if_neg nTF]
      · unfold mX12_strike
        rw [if_pos s433, misCount_ok h2.2.1 h18, obind, bI_if0, hd, if_neg nTF, show (6 : Int32) = nI 6 from rfl, its_n h2.2.1 (by omega) (by omega), obind, hs, if_pos (show nI 1 = 1 from rfl)]
    · have n6 := (h3.1.2.2.2.2.1 k hk').2.2.2.2.2.2.1
      obtain ⟨N', hN'⟩ : ∃ N', N' = updA N (19 + 8 * k + 6) 1 := ⟨_, rfl⟩
      have nh : ∀ i, i ≠ 19 + 8 * k + 6 → N' i = N i := fun i hi => by rw [hN', updA_ne _ _ hi]
      have ih : ∀ k' j, j < 8 → j ≠ 6 → it N' k' j = it N k' j := fun k' j hj h6 => by rw [hN', it_upd (by omega) hj, if_neg (by omega)]
      have i6 : ∀ k', it N' k' 6 = if k' = k then 1 else it N k' 6 := fun k' => by
        rw [hN', it_upd (by omega) (by omega)]
        by_cases e : k' = k
        · rw [if_pos ⟨e, rfl⟩, if_pos e]
        · rw [if_neg (fun q => e q.1), if_neg e]
      have i0 : ∀ k', it N' k' 0 = it N k' 0 := fun k' => ih k' 0 (by omega) (by omega)
      have i1 : ∀ k', it N' k' 1 = it N k' 1 := fun k' => ih k' 1 (by omega) (by omega)
      have i2 : ∀ k', it N' k' 2 = it N k' 2 := fun k' => ih k' 2 (by omega) (by omega)
      have i3 : ∀ k', it N' k' 3 = it N k' 3 := fun k' => ih k' 3 (by omega) (by omega)
      have i4 : ∀ k', it N' k' 4 = it N k' 4 := fun k' => ih k' 4 (by omega) (by omega)
      have i5 : ∀ k', it N' k' 5 = it N k' 5 := fun k' => ih k' 5 (by omega) (by omega)
      have i7 : ∀ k', it N' k' 7 = it N k' 7 := fun k' => ih k' 7 (by omega) (by omega)
      have lh : lft T N' = lft T N := lft_hi fun i hi => nh i (by omega)
      have hEX : EX T N' := by
        obtain ⟨⟨g1, g2, g3, g4, g5, g6⟩, g7⟩ := h3
        refine ⟨⟨fun f hf => ?_, by rw [nh 16 (by omega)]; exact g2, by rw [nh 17 (by omega)]; exact g3, by rw [nh 18 (by omega)]; exact g4, fun k' hk'' => ?_, by rw [lh]; exact g6⟩, fun hc f hf => ?_⟩
        · unfold kn; rw [nh f (by omega), nh (8 + f) (by omega)]; exact g1 f hf
        · rw [nh 18 (by omega)] at hk''
          obtain ⟨b1, b2, b3, b4, b5, b6, b7, b8⟩ := g5 k' hk''
          simp only [i0, i1, i2, i3, i4, i5, i7, nh 17 (by omega)]
          exact ⟨b1, b2, b3, b4, b5, b6, by rw [i6]; split <;> omega, b8⟩
        · rw [nh 16 (by omega)] at hc
          rw [nh f (by omega)]; exact g7 hc f hf
      obtain ⟨Ja, ea, j1, j2, j3, j4⟩ := h.note L
      have js : Ja (gsa σ) 3 = nI (bs (fun k => decide (it N k 6 = 1)) (N 18)) := j4.1.2.2.2.1
      have nb : bs (fun k => decide (it N k 6 = 1)) (N 18) ||| 2 ^ k = bs (fun k => decide (it N' k 6 = 1)) (N 18) := by
        rw [bs_onN _ hk']
        exact bs_congr fun k' _ => by
          rw [updA_at, i6]
          by_cases e : k' = k
          · rw [if_pos e, if_pos e]; rfl
          · rw [if_neg e, if_neg e]
      have nl := bs_lt (fun k => decide (it N' k 6 = 1)) (N 18)
      have pcn : pc (bs (fun k => decide (it N' k 6 = 1)) (N 18)) = cntB (fun k => decide (it N' k 6 = 1)) (N 18) := pc_bs _ h18
      have cc' : cntB (fun k => decide (it N' k 6 = 1)) (N 18) + cntB (fun k => !decide (it N' k 6 = 1)) (N 18) = N 18 := cnt_compl _ _ _ fun _ _ => rfl
      have c1 : CSt (rowUp Ja (gsa σ) (updA (Ja (gsa σ)) 3 (nI (bs (fun k => decide (it N' k 6 = 1)) (N 18))))) (gsa σ) N' := by
        refine j4.hi (fun i hi => nh i (by omega)) (by rw [rowUp_same, updA_ne _ _ (by omega), nh 17 (by omega)]; exact j4.1.1) (by rw [rowUp_same, updA_ne _ _ (by omega), nh 16 (by omega)]; exact j4.1.2.1) (by rw [rowUp_same, updA_ne _ _ (by omega), nh 18 (by omega)]; exact j4.1.2.2.1) (by rw [rowUp_same, updA_same, nh 18 (by omega)]) (fun k hk' => by rw [rowUp_same, updA_ne _ _ (by omega)]) (fun k' hk'' => ?_)
        rw [nh 18 (by omega)] at hk''
        rw [i0, i1, i2, i3, i4, i5]
        rw [rowUp_ne _ _ (by omega), rowUp_ne _ _ (by omega), rowUp_ne _ _ (by omega), rowUp_ne _ _ (by omega), rowUp_ne _ _ (by omega), rowUp_ne _ _ (by omega)]
        exact j4.2 k' hk''
      have fI1 : ∀ x, (x < gsa σ ∨ gsa σ + 7 ≤ x) → rowUp Ja (gsa σ) (updA (Ja (gsa σ)) 3 (nI (bs (fun k => decide (it N' k 6 = 1)) (N 18)))) x = Ja x := fun x hx => rowUp_ne _ _ (by omega)
      obtain ⟨hi, m1, r1⟩ := act_cls h hEX j2 c1 fI1 (fun _ _ => rfl)
      obtain ⟨I3, e3, k1, k2, k3⟩ := kact_on (L1 := L) h (by rw [hi 433 (by omega)]) (hi 439 (by omega)) (hi 438 (by omega))
      have rn3 : rN I3 N := (m1.fw (I' := I3) fun x hx => k2 x (by omega) (by omega)).2.1
      obtain ⟨m3, m2, b1, b2⟩ := act_hi h (fun i hi => nh i (by omega)) hEX j1 j2 j3 c1 fI1 (R := updA (I3 438) (19 + 8 * k + 6) 1) (fun i hi => by
        rw [updA_at, hN', updA_at]
        by_cases e : i = 19 + 8 * k + 6
        · rw [if_pos e, if_pos e]; rfl
        · rw [if_neg e, if_neg e]; exact rn3 i hi) k1 k2 k3
      refine ⟨nI (cntB (fun k => !decide (it N' k 6 = 1)) (N 18)), rowUp Ja (gsa σ) (updA (Ja (gsa σ)) 3 (nI (bs (fun k => decide (it N' k 6 = 1)) (N 18)))), L, rowUp I3 438 (updA (I3 438) (19 + 8 * k + 6) 1), L, _, _, _, _, _, ?_, ?_, b1, b2, by rw [fI1 1 (by unfold isSt at hsa; omega), j2 1 (by omega)]⟩
      · unfold mX11_strike
        rw [if_pos s100, cisCount_ok h1, obind, bI_if0, hd, if_neg nTF, gSa, gI_st hsa, obind, h1.2.2.2.2.1.2.2.2.1, str, obind, bI_if0, decide_eq_false hs, if_pos rfl, gHist, obind, gSa, ea, obind, gSa, gI_st hsa, obind, js, shl1 (by omega), nx_or, nb, sI_ok (sSt hsa), obind, setI_hk, hpI_hk', gSa, gI_st hsa, obind, gSa, gI_st hsa, obind, rowUp_same, updA_same, updA_ne _ _ (by omega), j4.1.2.2.1, cbits_ok _ (by omega), obind, pcn, nI_sub (by omega), show N 18 - cntB (fun k => decide (it N' k 6 = 1)) (N 18) = cntB (fun k => !decide (it N' k 6 = 1)) (N 18) by omega]
      · show mX12_strike 433 (nI k) (hk σ (rowUp Ja (gsa σ) (updA (Ja (gsa σ)) 3 (nI (bs (fun k => decide (it N' k 6 = 1)) (N 18))))) L) = _
        unfold mX12_strike mX12_strike_l40
        rw [if_pos s433, misCount_ok m1.2.1 h18, obind, bI_if0, hd, if_neg nTF, show (6 : Int32) = nI 6 from rfl, its_n m1.2.1 (by omega) (by omega), obind, c_1 (by omega), if_neg hs, e3, obind, puts_ok' (by omega) (by omega), obind]
        refine lp_traj (f := fun s : Int32 × Int32 => mX12_strike_l40f 433 (hk σ (rowUp I3 438 (updA (I3 438) (19 + 8 * k + 6) 1)) L) s.1 s.2) (N 18) (fun i => (nI (cntB (fun k => !decide (it N' k 6 = 1)) i), nI i)) _ (fun i hi => ?_) ?_
        · show mX12_strike_l40f 433 _ (nI (cntB (fun k => !decide (it N' k 6 = 1)) i)) (nI i) = some (.inl (nI (cntB (fun k => !decide (it N' k 6 = 1)) i + (if (!decide (it N' i 6 = 1)) = true then 1 else 0)), nI (i + 1)))
          unfold mX12_strike_l40f
          have r6 : it N' i 6 ≤ 1 := (hEX.1.2.2.2.2.1 i (by rw [nh 18 (by omega)]; exact hi)).2.2.2.2.2.2.1
          rw [g438, show (18 : Int32) = nI 18 from rfl, ldN m2.2.1 (by omega), obind, nh 18 (by omega), c_lt hi (by omega), show (6 : Int32) = nI 6 from rfl, its_n m2.2.1 (by omega) (by omega), obind, nI_1]
          rcases (show it N' i 6 = 0 ∨ it N' i 6 = 1 by omega) with q | q
          · rw [q, decide_eq_false (show ¬ 0 = 1 by omega), show (1 : Int32) - nI 0 = nI 1 by decide, nI_add]; rfl
          · rw [q, decide_eq_true (show 1 = 1 from rfl), show (1 : Int32) - nI 1 = nI 0 by decide, nI_add]; rfl
        · show mX12_strike_l40f 433 _ (nI (cntB (fun k => !decide (it N' k 6 = 1)) (N 18))) (nI (N 18)) = _
          unfold mX12_strike_l40f
          rw [g438, show (18 : Int32) = nI 18 from rfl, ldN m2.2.1 (by omega), obind, nh 18 (by omega), c_nlt (Nat.le_refl _) (by omega), xts]
  · refine AR.no' h (v := -1) ?_ ?_
    · unfold mX11_strike
      rw [if_pos s100, cisCount_ok h1, obind, bI_if0, hd, if_pos rfl]
    · unfold mX12_strike
      rw [if_pos s433, misCount_ok h2.2.1 h18, obind, bI_if0, hd, if_pos rfl]
end Say
