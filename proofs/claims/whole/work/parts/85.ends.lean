section Ends
variable {σ : Sg} {I I' J I1 I2 I3 Ja : Nat → Nat → Int32} {L L' L1 L2 : Nat → Nat → Int64} {T N N' M : Nat → Nat} {a a' : Nat} {P P' : Nat → Nat → Nat} {K : Nat → Bool} {Q : Nat → Nat → Nat}
/-- end -/
theorem q_end {X : Nat → Nat} {n : Nat} (h : TX I X n) (v : Int32) : ∃ w I1 I2 n', mX11_end 100 v (hk σ I L) = some (w, hk σ I1 L) ∧ mX12_end 433 v (hk σ I1 L) = some (w, hk σ I2 L) ∧ TX I2 X n' ∧ (∀ x, x ≠ 101 → x ≠ 102 → x ≠ 433 → x ≠ 442 → I2 x = I x) ∧ (∀ k, k ≠ 10 → I2 433 k = I 433 k) ∧ (∀ k, k ≠ 1 → I2 101 k = I 101 k) ∧ I1 1 = I 1 := by
  obtain ⟨hn, h1, h2, hX⟩ := id h
  rcases rng v (lo := 0) (hi := n) (Nat.zero_le _) (by omega) with ⟨m, rfl, _, hm, c0, c1, hin⟩ | ⟨hc, hin⟩
  · refine ⟨1, rowUp I 101 (updA (I 101) 1 (nI m)), rowUp (rowUp I 101 (updA (I 101) 1 (nI m))) 433 (updA (I 433) 10 (nI m)), m, ?_, ?_, ⟨by omega, ?_, ?_, fun i hi => ?_⟩, fun x a b c d => by rw [rowUp_ne _ _ c, rowUp_ne _ _ a], fun k hk' => by rw [rowUp_same, updA_ne _ _ hk'], fun k hk' => by rw [rowUp_ne _ _ (by omega), rowUp_same, updA_ne _ _ hk'], rowUp_ne _ _ (by omega)⟩
    · unfold mX11_end mX7_cut
      have c0 : ¬ nI m < (0 : Int32) := c0
      rw [if_pos s100, gTxt, if_pos s101, if_neg c0, gI_o 1 (n := 2) rfl, obind, h1, if_neg c1, sI_ok s101, obind, setI_hk, b2s]
      rfl
    · have hin : mX12_in (nI m) (0 : Int32) (nI n) = some (bI true) := hin
      unfold mX12_end
      rw [if_pos s433, gI_ok s433, obind, hpI_hk, rowUp_ne _ _ (by omega), h2, hin, obind, if_neg (by decide), sI_ok s433, obind, setI_hk, hpI_hk', rowUp_ne _ _ (by omega)]
    · rw [rowUp_ne _ _ (by omega), rowUp_same, updA_same]
    · rw [rowUp_same, updA_same]
    · rw [rowUp_ne _ _ (by omega), rowUp_ne _ _ (by omega), rowUp_ne _ _ (by omega), rowUp_ne _ _ (by omega)]
      exact hX i (by omega)
  · refine ⟨0, I, I, n, ?_, ?_, h, fun _ _ _ _ _ => rfl, fun _ _ => rfl, fun _ _ => rfl, rfl⟩
    · have hc : v < (0 : Int32) ∨ (¬ v < (0 : Int32) ∧ nI n < v) := hc
      unfold mX11_end mX7_cut
      rw [if_pos s100, gTxt, if_pos s101]
      rcases hc with c | ⟨c, c'⟩
      · rw [if_pos c, b2s]; rfl
      · rw [if_neg c, gI_o 1 (n := 2) rfl, obind, h1, if_pos c', b2s]; rfl
    · have hin : mX12_in v (0 : Int32) (nI n) = some (bI false) := hin
      unfold mX12_end
      rw [if_pos s433, gI_ok s433, obind, hpI_hk, h2, hin, obind, if_pos (show bI false = 0 from rfl)]
theorem s282 : (hpS (hk σ I L) 282).1 = 3 := rfl
theorem gPar {ρ : Type} (f : Nat → Option ρ) : (gR 11 7 100 (hk σ I L)).bind f = f 282 := rfl
/-- fault -/
theorem q_fault {fl pl : Nat} (h : FA I fl pl) (y : Int32) : ∃ v, mX11_fault 100 y (hk σ I L) = some v ∧ mX12_fault 433 y (hk σ I L) = some v := by
  obtain ⟨h5, h48, h7, h19, h0, h1⟩ := id h
  unfold mX11_fault mX12_fault
  rw [if_pos s100, if_pos s433]
  rcases lsw_cases y with rfl | rfl | ⟨n0, n1, n2, n3⟩
  · refine ⟨nI fl, ?_, ?_⟩
    · rw [lsw0, gPar, gI_o 7 (n := 9) rfl, obind, h7]
    · rw [if_pos rfl, gI_ok s433, obind, hpI_hk, h19]
  · rw [lsw1, gPar, gI_o 7 (n := 9) rfl, obind, h7, if_neg (show ¬ (1 : Int32) = 0 by decide), if_pos rfl, gI_ok s433, obind, hpI_hk]
    by_cases e : fl = 0
    · rw [e, if_pos (show nI 0 = 0 from rfl), h0 e]
      exact ⟨_, rfl, rfl⟩
    · rw [if_neg (show ¬ nI fl = 0 from fun q => e (by rw [nI_z (by omega)] at q; exact q)), gPar, gI_o 8 (n := 9) rfl, obind, (h1 e).1, (h1 e).2]
      exact ⟨_, rfl, rfl⟩
  · exact ⟨-1, by rw [lswN n0 n1], by rw [if_neg n2, if_neg n3]⟩
/-- asked -/
theorem q_asked (h : AS I L) (y : Int32) : ∃ v, mX11_asked 100 y (hk σ I L) = some v ∧ mX12_asked 433 y (hk σ I L) = some v := by
  have c17 : gL 11 17 100 (hk σ I L) = some (L 100 17) := gL_ok s100
  have c16 : gL 11 16 100 (hk σ I L) = some (L 100 16) := gL_ok s100
  have m40 : gL 12 40 433 (hk σ I L) = some (L 433 40) := gL_ok s433
  have m41 : gL 12 41 433 (hk σ I L) = some (L 433 41) := gL_ok s433
  unfold mX11_asked mX12_asked
  rw [if_pos s100, if_pos s433, gI_ok s433, obind, hpI_hk]
  rcases rng y (lo := 0) (hi := 1) (by omega) (by omega) with ⟨m, rfl, _, hm, c0, c1, hin⟩ | ⟨hc, hin⟩
  · have c0 : ¬ nI m < (0 : Int32) := c0
    have c1 : ¬ (1 : Int32) < nI m := c1
    have hin : mX12_in (nI m) (0 : Int32) (1 : Int32) = some (bI true) := hin
    rw [if_neg c0, if_neg c1, hin, obind]
    rcases h with ⟨a, b⟩ | ⟨a, b, c, d⟩
    · rw [c17, obind, b, if_pos (by decide), a, if_pos rfl]
      exact ⟨_, rfl, rfl⟩
    · rw [c17, obind, if_neg d, a, if_neg (show ¬ (1 : Int32) = 0 by decide), if_neg (show ¬ bI true = 0 by decide)]
      by_cases e : nI m = 0
      · rw [if_pos e, if_pos e, c16, obind, m40, obind, b]
        exact ⟨_, rfl, rfl⟩
      · rw [if_neg e, if_neg e, obind, m41, obind, c]
        exact ⟨_, rfl, rfl⟩
  · have hc : y < (0 : Int32) ∨ (¬ y < (0 : Int32) ∧ (1 : Int32) < y) := hc
    have hin : mX12_in y (0 : Int32) (1 : Int32) = some (bI false) := hin
    refine ⟨-1, ?_, ?_⟩
    · rcases hc with c | ⟨c, c'⟩
      · rw [if_pos c]
      · rw [if_neg c, if_pos c']
    · by_cases e : I 433 39 = 0
      · rw [if_pos e]
      · rw [if_neg e, hin, obind, if_pos (show bI false = 0 from rfl)]
theorem tsw_out {x : Int32} {n : Nat} (h : decide (0 ≤ x.toInt ∧ x.toInt < (n : Int)) = false) {α : Type} (l : List α) (d : α) (hl : l.length = n) : tsw x 0 l d = d := by
  have h := of_decide_eq_false h
  rcases ix_cases x with hx | ⟨j, hj, rfl⟩
  · exact tsw_neg hx l d
  · rw [nI_toInt hj] at h
    rw [tsw_n hj, tdN (by omega)]
/-- count -/
theorem q_count (h : BI σ I L T N a P K Q) {X : Nat → Nat} {n : Nat} (hx : TX I X n) (y : Int32) : AR σ I L T (mX11_count 100 y (hk σ I L)) (fun hp => mX12_count 433 y hp) := by
  obtain ⟨cr, mi, ex, pa, p3, hTh⟩ := id h
  obtain ⟨⟨hla, hsa, hS⟩, hWT, hWN, hLw, hSt⟩ := id cr
  obtain ⟨hrT, hrN, _⟩ := id mi
  obtain ⟨hrT, hrN, _⟩ := id mi
  have q : ∀ {v : Int32} , mX11_count 100 y (hk σ I L) = some (v, hk σ I L) → mX12_count 433 y (hk σ I L) = some (v, hk σ I L) → AR σ I L T (mX11_count 100 y (hk σ I L)) (fun hp => mX12_count 433 y hp) := fun e1 e2 => AR.no' h e1 e2
  rcases ixn y 10 (by omega) with ⟨j, hj, rfl, _⟩ | hn
  · unfold mX11_count mX12_count at q ⊢
    simp only [if_pos s100, if_pos s433] at q ⊢
    rw [tsw_n (by omega)] at q ⊢
    rcases (show j = 0 ∨ j = 1 ∨ j = 2 ∨ j = 3 ∨ j = 4 ∨ j = 5 ∨ j = 6 ∨ j = 7 ∨ j = 8 ∨ j = 9 by omega) with rfl | rfl | rfl | rfl | rfl | rfl | rfl | rfl | rfl | rfl
    · exact q (v := nI (T 0)) (by rw [td0, gLa, gI_la hla, obind, hLw.1.1]) (by rw [tsw_n (by omega), td0, g434, show (0 : Int32) = nI 0 from rfl, ldT hrT (by omega), obind])
    · exact q (v := nI (T 1)) (by rw [td1, gLa, gI_la hla, obind, hLw.1.2.1]) (by rw [tsw_n (by omega), td1, g434, show (1 : Int32) = nI 1 from rfl, ldT hrT (by omega), obind])
    · exact q (v := nI (N 18)) (by rw [td2, gSa, gI_st hsa, obind, hSt.1.2.2.1]) (by rw [tsw_n (by omega), td2, g438, show (18 : Int32) = nI 18 from rfl, ldN hrN (by omega), obind])
    · obtain ⟨r, e1, hr⟩ := remember_ok cr
      have f1 : FrC I L I (rowUp L 415 r) := FrC.rf.upL r (by unfold scC; omega)
      obtain ⟨r2, b, e2⟩ := cstanding_ok (cr.fr f1) (by rw [rowUp_same]; exact hr)
      have f2 : FrC I L (rowUp I 432 b) (rowUp (rowUp L 415 r) 417 r2) := (f1.upI b (by unfold scC; omega)).upL r2 (by unfold scC; omega)
      obtain ⟨r3, q3, e3⟩ := mstanding_ok (σ := σ) (L := rowUp (rowUp L 415 r) 417 r2) (mi.frC f2)
      have hs : stnd T N < 256 := Nat.lt_of_lt_of_le (bs_lt _ _) (ev_lt hWN.2.2.2.1.2)
      refine AR.q h (v := nI (pc (stnd T N))) ?_ ?_ f2 (I2 := rowUp (rowUp (rowUp I 432 b) 448 q3) 449 r3) ((FrM.rf.upI q3 (by unfold scM; omega)).upI r3 (by unfold scM; omega))
      · rw [td3, e1, obind, e2, b2s, cbits_ok _ hs, obind]
      · show (if (hpS (hk σ (rowUp I 432 b) _) 433).1 = 13 then _ else _) = _
        rw [if_pos s433, tsw_n (by omega), td3, e3, b2s, mbits_n hs, obind]
    · exact q (v := nI (N 17)) (by rw [td4, gSa, gI_st hsa, obind, hSt.1.1]) (by rw [tsw_n (by omega), td4, g438, show (17 : Int32) = nI 17 from rfl, ldN hrN (by omega), obind])
    · have h16 := hWN.2.1
      refine q (v := nI (N 16)) ?_ (by rw [tsw_n (by omega), td5, g438, show (16 : Int32) = nI 16 from rfl, ldN hrN (by omega), obind])
      rw [td5, gSa, gI_st hsa, obind, hSt.1.2.1, c_0 (by omega)]
      rcases (show N 16 = 0 ∨ N 16 = 1 by omega) with e | e
      · rw [if_pos e, e]; rfl
      · rw [if_neg (by omega), e]; rfl
    · have kl : knF N < 256 := knF_lt N
      exact q (v := nI (pc (knF N))) (by rw [td6, gSa, known_ok hsa hSt, obind, cbits_ok _ kl, obind]) (by rw [tsw_n (by omega), td6, knownFacts_ok hrN (fun f hf => (hWN.1 f hf).1), obind, mbits_n kl, obind])
    · exact q (v := nI a) (by rw [td7, gHist, obind, gI_o 4 (n := 5) rfl, obind, pa.2.1.2.1]) (by rw [tsw_n (by omega), td7, gI_ok s433, obind, hpI_hk, pa.2.2.1.1])
    · exact q (v := nI n) (by rw [td8, gTxt, gI_o 1 (n := 2) rfl, obind, hx.2.1]) (by rw [tsw_n (by omega), td8, gI_ok s433, obind, hpI_hk, hx.2.2.1])
    · exact q (v := nI (T 5)) (by rw [td9, gLa, gI_la hla, obind, hLw.1.2.2.2.2.1]) (by rw [tsw_n (by omega), td9, g434, show (5 : Int32) = nI 5 from rfl, ldT hrT (by omega), obind])
  · refine q (v := -1) ?_ ?_
    · unfold mX11_count
      rw [if_pos s100]
      exact tsw_out hn _ _ rfl
    · unfold mX12_count
      rw [if_pos s433]
      exact tsw_out hn _ _ rfl
end Ends
