section File
variable {σ : Sg} {I I' J I1 I2 I3 Ja : Nat → Nat → Int32} {L L' L1 L2 : Nat → Nat → Int64} {T N N' M : Nat → Nat} {a a' : Nat} {P P' : Nat → Nat → Nat} {K : Nat → Bool} {Q : Nat → Nat → Nat}
/-- file -/
theorem file_ok {s k dy : Nat} (b w r : Int32) (hs : isSt s) (hk' : k < 8) (h2 : I s 2 = nI k) (h0 : I s 0 = nI dy) :
    ∃ I', mX5_file s b w r (hk σ I L) = some (nI k, hk σ I' L) ∧ I' s = updA (I s) 2 (nI (k + 1)) ∧ I' (s + 1) = updA (I (s + 1)) k b ∧ I' (s + 2) = updA (I (s + 2)) k w ∧ I' (s + 3) = updA (I (s + 3)) k r ∧ I' (s + 4) = updA (I (s + 4)) k (nI dy) ∧ I' (s + 5) = updA (I (s + 5)) k 0 ∧ I' (s + 6) = updA (I (s + 6)) k 0 ∧ ∀ x, (x < s ∨ s + 7 ≤ x) → I' x = I x := by
  refine ⟨rowUp (rowUp (rowUp (rowUp (rowUp (rowUp (rowUp I (s + 1) (updA (I (s + 1)) k b)) (s + 2) (updA (I (s + 2)) k w)) (s + 3) (updA (I (s + 3)) k r)) (s + 4) (updA (I (s + 4)) k (nI dy))) (s + 5) (updA (I (s + 5)) k 0)) (s + 6) (updA (I (s + 6)) k 0)) s (updA (I s) 2 (nI (k + 1))), ?_, ?_, ?_, ?_, ?_, ?_, ?_, ?_, fun x hx => ?_⟩
  · unfold mX5_file
    rw [if_pos (sSt hs), gI_st hs, obind, h2, gR_st hs, obind, RF_st_9 σ hs, put_nI (n := 8) (sz1 hs) (by omega) hk', obind, setI_hk, hpI_hk']
    rw [gR_st hs, obind, RF_st_10 σ hs, put_nI (n := 8) (sz2 hs) (by omega) hk', obind, setI_hk, hpI_hk', rowUp_ne _ _ (show s + 2 ≠ s + 1 by omega)]
    rw [gR_st hs, obind, RF_st_11 σ hs, put_nI (n := 8) (sz3 hs) (by omega) hk', obind, setI_hk, hpI_hk', rowUp_ne _ _ (show s + 3 ≠ s + 2 by omega), rowUp_ne _ _ (show s + 3 ≠ s + 1 by omega)]
    rw [gR_st hs, obind, RF_st_12 σ hs, gI_st hs, obind, rowUp_ne _ _ (show s ≠ s + 3 by omega), rowUp_ne _ _ (show s ≠ s + 2 by omega), rowUp_ne _ _ (show s ≠ s + 1 by omega), h0, put_nI (n := 8) (sz4 hs) (by omega) hk', obind, setI_hk, hpI_hk', rowUp_ne _ _ (show s + 4 ≠ s + 3 by omega), rowUp_ne _ _ (show s + 4 ≠ s + 2 by omega), rowUp_ne _ _ (show s + 4 ≠ s + 1 by omega)]
    rw [gR_st hs, obind, RF_st_13 σ hs, put_nI (n := 8) (sz5 hs) (by omega) hk', obind, setI_hk, hpI_hk', rowUp_ne _ _ (show s + 5 ≠ s + 4 by omega), rowUp_ne _ _ (show s + 5 ≠ s + 3 by omega), rowUp_ne _ _ (show s + 5 ≠ s + 2 by omega), rowUp_ne _ _ (show s + 5 ≠ s + 1 by omega)]
    rw [gR_st hs, obind, RF_st_14 σ hs, put_nI (n := 8) (sz6 hs) (by omega) hk', obind, setI_hk, hpI_hk', rowUp_ne _ _ (show s + 6 ≠ s + 5 by omega), rowUp_ne _ _ (show s + 6 ≠ s + 4 by omega), rowUp_ne _ _ (show s + 6 ≠ s + 3 by omega), rowUp_ne _ _ (show s + 6 ≠ s + 2 by omega), rowUp_ne _ _ (show s + 6 ≠ s + 1 by omega)]
    rw [gI_st hs, obind, rowUp_ne _ _ (show s ≠ s + 6 by omega), rowUp_ne _ _ (show s ≠ s + 5 by omega), rowUp_ne _ _ (show s ≠ s + 4 by omega), rowUp_ne _ _ (show s ≠ s + 3 by omega), rowUp_ne _ _ (show s ≠ s + 2 by omega), rowUp_ne _ _ (show s ≠ s + 1 by omega), h2, nI_1, sI_ok (sSt hs), obind, setI_hk, hpI_hk', rowUp_ne _ _ (show s ≠ s + 6 by omega), rowUp_ne _ _ (show s ≠ s + 5 by omega), rowUp_ne _ _ (show s ≠ s + 4 by omega), rowUp_ne _ _ (show s ≠ s + 3 by omega), rowUp_ne _ _ (show s ≠ s + 2 by omega), rowUp_ne _ _ (show s ≠ s + 1 by omega)]
  all_goals simp (disch := omega) only [rowUp_ne, rowUp_same]
/-- add -/
theorem q_add (h : BI σ I L T N a P K Q) (x y z : Int32) : AR σ I L T (mX11_add 100 x y z (hk σ I L)) (fun hp => mX12_add 433 x y z hp) := by
  obtain ⟨h1, h2, h3, ⟨p1, p2, p3, p4, p5, p6, p7⟩, h5, h6⟩ := id h
  have hsa := h1.1.2.1
  have h18 := h3.1.2.2.2.1.2
  have n17 := h3.1.2.2.1
  rcases ixn x (N 18) (by omega) with ⟨li, hl, rfl, hd⟩ | hd
  · rcases rng y (lo := 0) (hi := 999) (by omega) (by omega) with ⟨w, rfl, _, w9, hw1, hw2, hwin⟩ | ⟨hor, hin⟩
    · have hw1 : ¬ nI w < (0 : Int32) := hw1
      have hw2 : ¬ (999 : Int32) < nI w := hw2
      have hwin : mX12_in (nI w) (0 : Int32) (999 : Int32) = some (bI true) := hwin
      rcases rng z (lo := 0) (hi := 999) (by omega) (by omega) with ⟨r, rfl, _, r9, hr1, hr2, hrin⟩ | ⟨hor, hin⟩
      · have hr1 : ¬ nI r < (0 : Int32) := hr1
        have hr2 : ¬ (999 : Int32) < nI r := hr2
        have hrin : mX12_in (nI r) (0 : Int32) (999 : Int32) = some (bI true) := hrin
        have ld18 : ∀ {I1 L1}, MI I1 T N → ldI 438 (18 : Int32) (hk σ I1 L1) = some (nI (N 18)) := fun {I1 L1} m => ldN m.2.1 (i := 18) (by omega)
        by_cases h8 : N 18 = 8
        · refine AR.no' h (v := -2) ?_ ?_
          · unfold mX11_add
            rw [if_pos s100, cisCount_ok h1, obind, bI_if0, hd, if_neg nTF, if_neg hw1, if_neg hw2, if_neg hr1, if_neg hr2, gSa, gI_st hsa, obind, h1.2.2.2.2.1.2.2.1, h8, if_neg (by decide)]
          · unfold mX12_add
            rw [if_pos s433, misCount_ok h2.2.1 h18, obind, bI_if0, hd, if_neg nTF, hwin, obind, bI_if0, if_neg nTF, hrin, obind, bI_if0, if_neg nTF, g438, ld18 h2, obind, h8, if_pos (show nI 8 = 8 from rfl)]
        · have h8' : N 18 < 8 := by omega
          obtain ⟨N', hN'⟩ : ∃ N', N' = adN N li w r := ⟨_, rfl⟩
          have hEX : EX T N' := by rw [hN']; exact h3.add h8' hl w9 r9
          have nlo : ∀ i, i < 18 → N' i = N i := fun i hi => by rw [hN']; exact adN_lo hi
          have n18 : N' 18 = N 18 + 1 := by rw [hN']; exact adN_18
          have itn : ∀ k j, j < 8 → it N' k j = if k = N 18 then fld (it N li 0) (N 17) w r li j else it N k j := fun k j hj => by rw [hN']; exact adN_it hj
          obtain ⟨Ja, ea, j1, j2, j3, j4⟩ := h.note L
          obtain ⟨I1, e1, q0, q1, q2, q3, q4, q5, q6, qo⟩ := file_ok (σ := σ) (L := L) (nI (it N li 0)) (nI w) (nI r) hsa h8' j4.1.2.2.1 j4.1.1
          have c1 : CSt I1 (gsa σ) N' := by
            refine j4.hi (fun i hi => nlo i (by omega)) (by rw [q0, updA_ne _ _ (by omega), nlo 17 (by omega)]; exact j4.1.1) (by rw [q0, updA_ne _ _ (by omega), nlo 16 (by omega)]; exact j4.1.2.1) (by rw [q0, updA_same, n18]) ?_ (fun k hk' => by rw [q0, updA_ne _ _ (by omega)]) (fun k hk' => ?_)
            · rw [q0, updA_ne _ _ (by omega), j4.1.2.2.2.1, n18, bsS, itn _ 6 (by omega), if_pos rfl, decide_eq_false (show ¬ fld (it N li 0) (N 17) w r li 6 = 1 from (show ¬ (0 : Nat) = 1 by decide)), if_neg (by decide), Nat.or_zero]
              exact congrArg nI (bs_congr fun k hk' => by rw [itn k 6 (by omega), if_neg (by omega)])
            · rw [n18] at hk'
              rw [itn k 0 (by omega), itn k 1 (by omega), itn k 2 (by omega), itn k 3 (by omega), itn k 4 (by omega), itn k 5 (by omega), q1, q2, q3, q4, q5, q6, updA_at, updA_at, updA_at, updA_at, updA_at, updA_at]
              by_cases e : k = N 18
              · subst e
                rw [if_pos rfl, if_pos rfl, if_pos rfl, if_pos rfl, if_pos rfl, if_pos rfl, if_pos rfl, if_pos rfl, if_pos rfl, if_pos rfl, if_pos rfl, if_pos rfl]
                exact ⟨rfl, rfl, rfl, rfl, rfl, rfl⟩
              · rw [if_neg e, if_neg e, if_neg e, if_neg e, if_neg e, if_neg e, if_neg e, if_neg e, if_neg e, if_neg e, if_neg e, if_neg e]
                exact j4.2 k (by omega)
          have fI1 : ∀ x, (x < gsa σ ∨ gsa σ + 7 ≤ x) → I1 x = Ja x := qo
          obtain ⟨hi, m1, r1⟩ := act_cls h hEX j2 c1 fI1 (fun _ _ => rfl)
          obtain ⟨I3, e3, k1, k2, k3⟩ := kact_on (L1 := L) h (by rw [hi 433 (by omega)]) (hi 439 (by omega)) (hi 438 (by omega))
          have m3 : MI I3 T N := m1.fw fun x hx => k2 x (by omega) (by omega)
          obtain ⟨r0, hr0⟩ : ∃ r0, r0 = updA (I3 438) 18 (nI (N 18 + 1)) := ⟨_, rfl⟩
          have loop : ∃ R, mX12_add_l74 433 (nI li) (nI w) (nI r) (nI (N 18)) 0 (hk σ (rowUp I3 438 r0) L) = some (nI (N 18), hk σ (rowUp I3 438 R) L) ∧ ∀ i, i < 83 → R i = nI (N' i) := by
            unfold mX12_add_l74
            obtain ⟨o, e, R, rfl, hR⟩ := lp_inv (f := fun s : Int32 × Hp => mX12_add_l74f 433 (nI li) (nI w) (nI r) (nI (N 18)) s.1 s.2) 8 (fun j st => ∃ q, st = (nI j, hk σ (rowUp I3 438 q) L) ∧ ∀ i, q i = if 19 + 8 * N 18 ≤ i ∧ i < 19 + 8 * N 18 + j then 0 else r0 i)
              (fun o => ∃ R, o = (nI (N 18), hk σ (rowUp I3 438 R) L) ∧ ∀ i, i < 83 → R i = nI (N' i))
              (fun j st hj hQ => by
                obtain ⟨q, rfl, hq⟩ := hQ
                refine ⟨_, ?_, updA q (19 + 8 * N 18 + j) 0, rfl, fun i => ?_⟩
                · show mX12_add_l74f 433 (nI li) (nI w) (nI r) (nI (N 18)) (nI j) (hk σ (rowUp I3 438 q) L) = _
                  unfold mX12_add_l74f
                  rw [c_lt8 hj, puts_ok h8' hj, obind, nI_1]
                · rw [updA_at, hq]
                  by_cases e : i = 19 + 8 * N 18 + j
                  · rw [if_pos e, if_pos (by omega)]
                  · rw [if_neg e]
                    by_cases g : 19 + 8 * N 18 ≤ i ∧ i < 19 + 8 * N 18 + j
                    · rw [if_pos g, if_pos (by omega)]
                    · rw [if_neg g, if_neg (by omega)])
              (fun st hQ => by
                obtain ⟨q, rfl, hq⟩ := hQ
                obtain ⟨R, hR⟩ : ∃ R, R = updA (updA (updA (updA (updA q (19 + 8 * N 18 + 0) (nI (it N li 0))) (19 + 8 * N 18 + 1) (nI (N 17))) (19 + 8 * N 18 + 2) (nI w)) (19 + 8 * N 18 + 3) (nI r)) (19 + 8 * N 18 + 7) (nI li) := ⟨_, rfl⟩
                refine ⟨(nI (N 18), hk σ (rowUp I3 438 R) L), ?_, R, rfl, fun i hi' => ?_⟩
                · show mX12_add_l74f 433 (nI li) (nI w) (nI r) (nI (N 18)) (nI 8) (hk σ (rowUp I3 438 q) L) = _
                  have ib : mX12_its 433 (nI li) (0 : Int32) (hk σ (rowUp I3 438 q) L) = some (nI (it N li 0)) := by
                    rw [show (0 : Int32) = nI 0 from rfl, its_ok (by omega) (by omega), rowUp_same, hq, if_neg (by omega), hr0, updA_ne _ _ (by omega)]
                    exact congrArg some (m3.2.1 (19 + 8 * li + 0) (by omega))
                  have p0 : ∀ v q, mX12_puts 433 (nI (N 18)) (0 : Int32) v (hk σ (rowUp I3 438 q) L) = some (hk σ (rowUp I3 438 (updA q (19 + 8 * N 18 + 0) v)) L) := fun v q => puts_ok h8' (j := 0) (by omega)
                  have p1 : ∀ v q, mX12_puts 433 (nI (N 18)) (1 : Int32) v (hk σ (rowUp I3 438 q) L) = some (hk σ (rowUp I3 438 (updA q (19 + 8 * N 18 + 1) v)) L) := fun v q => puts_ok h8' (j := 1) (by omega)
                  have p2 : ∀ v q, mX12_puts 433 (nI (N 18)) (2 : Int32) v (hk σ (rowUp I3 438 q) L) = some (hk σ (rowUp I3 438 (updA q (19 + 8 * N 18 + 2) v)) L) := fun v q => puts_ok h8' (j := 2) (by omega)
                  have p3 : ∀ v q, mX12_puts 433 (nI (N 18)) (3 : Int32) v (hk σ (rowUp I3 438 q) L) = some (hk σ (rowUp I3 438 (updA q (19 + 8 * N 18 + 3) v)) L) := fun v q => puts_ok h8' (j := 3) (by omega)
                  have p7 : ∀ v q, mX12_puts 433 (nI (N 18)) (7 : Int32) v (hk σ (rowUp I3 438 q) L) = some (hk σ (rowUp I3 438 (updA q (19 + 8 * N 18 + 7) v)) L) := fun v q => puts_ok h8' (j := 7) (by omega)
                  have ldd : ldI 438 (17 : Int32) (hk σ (rowUp I3 438 (updA q (19 + 8 * N 18 + 0) (nI (it N li 0)))) L) = some (nI (N 17)) := by
                    rw [show (17 : Int32) = nI 17 from rfl, ld438 (by omega), rowUp_same, updA_ne _ _ (by omega), hq, if_neg (by omega), hr0, updA_ne _ _ (by omega)]
                    exact congrArg some (m3.2.1 17 (by omega))
                  unfold mX12_add_l74f
                  rw [if_neg (by decide), ib, obind, p0, obind, g438, ldd, obind, p1, obind, p2, obind, p3, obind, p7, obind, ← hR, xts]
                · have base : q i = if 19 + 8 * N 18 ≤ i ∧ i < 27 + 8 * N 18 then 0 else if i = 18 then nI (N 18 + 1) else nI (N i) := by
                    rw [hq]
                    by_cases g : 19 + 8 * N 18 ≤ i ∧ i < 19 + 8 * N 18 + 8
                    · rw [if_pos g, if_pos (by omega)]
                    · rw [if_neg g, if_neg (by omega), hr0, updA_at]
                      by_cases e : i = 18
                      · rw [if_pos e, if_pos e]
                      · rw [if_neg e, if_neg e]; exact m3.2.1 i hi'
                  rw [hR]
                  simp only [updA_at]
                  rw [base, hN']
                  by_cases g : 19 + 8 * N 18 ≤ i ∧ i < 27 + 8 * N 18
                  · obtain ⟨j, hj⟩ : ∃ j, i = 19 + 8 * N 18 + j := ⟨i - (19 + 8 * N 18), by omega⟩
                    subst hj
                    have av : adN N li w r (19 + 8 * N 18 + j) = fld (it N li 0) (N 17) w r li j := by
                      unfold adN
                      rw [if_neg (by omega), if_pos g, Nat.add_sub_cancel_left]
                    rw [if_pos g, av]
                    unfold fld
                    rcases (show j = 0 ∨ j = 1 ∨ j = 2 ∨ j = 3 ∨ j = 4 ∨ j = 5 ∨ j = 6 ∨ j = 7 by omega) with rfl | rfl | rfl | rfl | rfl | rfl | rfl | rfl
                    all_goals simp
                    all_goals rfl
                  · have av : adN N li w r i = if i = 18 then N 18 + 1 else N i := by
                      unfold adN
                      rw [if_neg g]
                    rw [if_neg g, av, if_neg (show ¬ i = 19 + 8 * N 18 + 7 by omega), if_neg (show ¬ i = 19 + 8 * N 18 + 3 by omega), if_neg (show ¬ i = 19 + 8 * N 18 + 2 by omega), if_neg (show ¬ i = 19 + 8 * N 18 + 1 by omega), if_neg (show ¬ i = 19 + 8 * N 18 + 0 by omega)]
                    split <;> rfl) (s := (nI 0, hk σ (rowUp I3 438 r0) L)) ⟨r0, rfl, fun i => by rw [if_neg (by omega)]⟩
            exact ⟨R, e, hR⟩
          obtain ⟨R, eR, hR⟩ := loop
          obtain ⟨_, _, b1, b2⟩ := act_hi h (fun i hi => nlo i (by omega)) hEX j1 j2 j3 c1 fI1 (R := R) hR k1 k2 k3
          refine ⟨nI (N 18), I1, L, rowUp I3 438 R, L, _, _, _, _, _, ?_, ?_, b1, b2, by rw [fI1 1 (by unfold isSt at hsa; omega), j2 1 (by omega)]⟩
          · have ck : mX11_kind 100 (nI li) (hk σ Ja L) = some (nI (it N li 0)) := by
              obtain ⟨d0, _⟩ := j4.2 li hl
              unfold mX11_kind
              rw [if_pos s100, gSa, gR_st hsa, obind, RF_st_9 σ hsa, at_r (SH_st1 hsa) (by omega) (by omega), obind, d0]
            unfold mX11_add
            rw [if_pos s100, cisCount_ok h1, obind, bI_if0, hd, if_neg nTF, if_neg hw1, if_neg hw2, if_neg hr1, if_neg hr2, gSa, gI_st hsa, obind, h1.2.2.2.2.1.2.2.1, c_lt8 h8', gHist, obind, gSa, ea, obind, gSa, ck, obind, e1, b2s]
          · show mX12_add 433 (nI li) (nI w) (nI r) (hk σ I1 L) = _
            unfold mX12_add
            rw [if_pos s433, misCount_ok m1.2.1 h18, obind, bI_if0, hd, if_neg nTF, hwin, obind, bI_if0, if_neg nTF, hrin, obind, bI_if0, if_neg nTF, g438, ld18 m1, obind, show (8 : Int32) = nI 8 from rfl, c_eqd (by omega) (by omega), if_neg h8, e3, obind, g438, ld18 m3, obind, g438, ld18 m3, obind, nI_1, show (18 : Int32) = nI 18 from rfl, stI_ok (n := 83) rfl (by omega) (by omega), obind, setI_hk, hpI_hk', ← hr0, eR]
      · refine AR.no' h (v := -1) ?_ ?_
        · unfold mX11_add
          rw [if_pos s100, cisCount_ok h1, obind, bI_if0, hd, if_neg nTF, if_neg hw1, if_neg hw2]
          rcases hor with q | ⟨q1, q2⟩
          · rw [if_pos (show z < 0 from q)]
          · rw [if_neg (show ¬ z < 0 from q1), if_pos (show (999 : Int32) < z from q2)]
        · have hin : mX12_in z (0 : Int32) (999 : Int32) = some (bI false) := hin
          unfold mX12_add
          rw [if_pos s433, misCount_ok h2.2.1 h18, obind, bI_if0, hd, if_neg nTF, hwin, obind, bI_if0, if_neg nTF, hin, obind, bI_if0, if_pos rfl]
    · refine AR.no' h (v := -1) ?_ ?_
      · unfold mX11_add
        rw [if_pos s100, cisCount_ok h1, obind, bI_if0, hd, if_neg nTF]
        rcases hor with q | ⟨q1, q2⟩
        · rw [if_pos (show y < 0 from q)]
        · rw [if_neg (show ¬ y < 0 from q1), if_pos (show (999 : Int32) < y from q2)]
      · have hin : mX12_in y (0 : Int32) (999 : Int32) = some (bI false) := hin
        unfold mX12_add
        rw [if_pos s433, misCount_ok h2.2.1 h18, obind, bI_if0, hd, if_neg nTF, hin, obind, bI_if0, if_pos rfl]
  · refine AR.no' h (v := -1) ?_ ?_
    · unfold mX11_add
      rw [if_pos s100, cisCount_ok h1, obind, bI_if0, hd, if_pos rfl]
    · unfold mX12_add
      rw [if_pos s433, misCount_ok h2.2.1 h18, obind, bI_if0, hd, if_pos rfl]
/-- the pleadings are closed -/
theorem EX.clo (h : EX T M) : EX T (updA M 16 1) := by
  have nh : ∀ i, i ≠ 16 → updA M 16 1 i = M i := fun i hi => updA_ne _ _ hi
  have ih : ∀ k j, it (updA M 16 1) k j = it M k j := fun k j => nh _ (by omega)
  have lh : lft T (updA M 16 1) = lft T M := lft_hi fun i hi => nh i (by omega)
  obtain ⟨⟨g1, g2, g3, g4, g5, g6⟩, g7⟩ := h
  refine ⟨⟨fun f hf => ?_, by rw [updA_same]; omega, by rw [nh 17 (by omega)]; exact g3, by rw [nh 18 (by omega)]; exact g4, fun k hk' => ?_, by rw [lh]; exact g6⟩, fun hc => ?_⟩
  · unfold kn; rw [nh f (by omega), nh (8 + f) (by omega)]; exact g1 f hf
  · rw [nh 18 (by omega)] at hk'
    simp only [ih, nh 17 (by omega)]
    exact g5 k hk'
  · rw [updA_same] at hc; omega
/-- close -/
theorem q_close (h : BI σ I L T N a P K Q) : AR σ I L T (mX11_close 100 (hk σ I L)) (fun hp => mX12_close 433 hp) := by
  obtain ⟨h1, h2, h3, ⟨p1, p2, p3, p4, p5, p6, p7⟩, h5, h6⟩ := id h
  have hW := h1.2.1
  have w1 := hW.1.2.1
  have hsa := h1.1.2.1
  have hla := h1.1.1
  obtain ⟨c1, c2, c3⟩ := h.clo
  by_cases hc : N 16 = 0
  · obtain ⟨Ja, ea, j1, j2, j3, j4⟩ := h.note L
    obtain ⟨N', hN'⟩ : ∃ N', N' = updA (cln T N (T 1)).1 16 1 := ⟨_, rfl⟩
    obtain ⟨x1, x2, x3⟩ := cln_EX hW h3 hc (T 1) (Nat.le_refl _)
    have hEX : EX T N' := by rw [hN']; exact x1.clo
    have lh : lft T N' = lft T (cln T N (T 1)).1 := lft_hi fun i hi => by rw [hN', updA_ne _ _ (by omega)]
    have cls : ∃ I1 r, mX11_close_l28 100 0 0 (hk σ Ja L) = some (nI (cln T N (T 1)).2, hk σ I1 (rowUp L 415 r)) ∧ CSt I1 (gsa σ) N' ∧ ∀ x, x ≠ gsa σ → I1 x = Ja x := by
      unfold mX11_close_l28
      obtain ⟨o, e, I1, r, rfl, q1, q2⟩ := lp_inv (f := fun s : Int32 × Int32 × Hp => mX11_close_l28f 100 s.1 s.2.1 s.2.2) (T 1) (fun f st => ∃ I1 r, st = (nI (cln T N f).2, nI f, hk σ I1 (rowUp L 415 r)) ∧ CSt I1 (gsa σ) (cln T N f).1 ∧ ∀ x, x ≠ gsa σ → I1 x = Ja x)
        (fun o => ∃ I1 r, o = (nI (cln T N (T 1)).2, hk σ I1 (rowUp L 415 r)) ∧ CSt I1 (gsa σ) N' ∧ ∀ x, x ≠ gsa σ → I1 x = Ja x)
        (fun f st hf hQ => by
          obtain ⟨I1, r, rfl, q1, q2⟩ := hQ
          obtain ⟨y1, y2, y3⟩ := cln_EX hW h3 hc f (by omega)
          obtain ⟨_, _, cr⟩ := act_cls (L1 := rowUp L 415 r) h y1 j2 q1 (fun x hx => q2 x (by omega)) (up415 r)
          obtain ⟨I2, r2, e2, s1, s2⟩ := cclose1 (n := (cln T N f).2) cr y2 hf
          rw [rowUp_two] at e2
          exact ⟨_, e2, I2, r2, rfl, s1, fun x hx => by rw [s2 x hx, q2 x hx]⟩)
        (fun st hQ => by
          obtain ⟨I1, r, rfl, q1, q2⟩ := hQ
          obtain ⟨_, _, cr⟩ := act_cls (L1 := rowUp L 415 r) h x1 j2 q1 (fun x hx => q2 x (by omega)) (up415 r)
          refine ⟨(nI (cln T N (T 1)).2, hk σ (rowUp I1 (gsa σ) (updA (I1 (gsa σ)) 1 1)) (rowUp L 415 r)), ?_, rowUp I1 (gsa σ) (updA (I1 (gsa σ)) 1 1), r, rfl, ?_, fun x hx => by rw [rowUp_ne _ _ hx, q2 x hx]⟩
          · show mX11_close_l28f 100 (nI (cln T N (T 1)).2) (nI (T 1)) (hk σ I1 (rowUp L 415 r)) = _
            unfold mX11_close_l28f mX11_close_b70
            rw [gLa, gI_la hla, obind, cr.2.2.2.1.1.2.1, c_nlt (Nat.le_refl _) (by omega), gSa, sZ_ok (sSt hsa) (Or.inr rfl), obind, setI_hk, hpI_hk', xts]
          · have nh : ∀ i, i ≠ 16 → N' i = (cln T N (T 1)).1 i := fun i hi => by rw [hN', updA_ne _ _ hi]
            have ih : ∀ k j, it N' k j = it (cln T N (T 1)).1 k j := fun k j => nh _ (by omega)
            refine q1.hi (fun i hi => nh i (by omega)) (by rw [rowUp_same, updA_ne _ _ (by omega), nh 17 (by omega)]; exact q1.1.1) (by rw [rowUp_same, updA_same, hN', updA_same]; rfl) (by rw [rowUp_same, updA_ne _ _ (by omega), nh 18 (by omega)]; exact q1.1.2.2.1) (by simp only [ih]; rw [rowUp_same, updA_ne _ _ (by omega), nh 18 (by omega)]; exact q1.1.2.2.2.1) (fun k hk' => by rw [rowUp_same, updA_ne _ _ (by omega)]) (fun k hk' => ?_)
            rw [nh 18 (by omega)] at hk'
            simp only [ih]
            rw [rowUp_ne _ _ (by omega), rowUp_ne _ _ (by omega), rowUp_ne _ _ (by omega), rowUp_ne _ _ (by omega), rowUp_ne _ _ (by omega), rowUp_ne _ _ (by omega)]
            exact q1.2 k hk') (s := (nI 0, nI 0, hk σ Ja (rowUp L 415 (L 415)))) ⟨Ja, L 415, rfl, j4, fun _ _ => rfl⟩
      rw [rowUp_id] at e
      exact ⟨I1, r, e, q1, q2⟩
    obtain ⟨I1, r, ec, s1, s2⟩ := cls
    have fI1 : ∀ x, (x < gsa σ ∨ gsa σ + 7 ≤ x) → I1 x = Ja x := fun x hx => s2 x (by omega)
    obtain ⟨hi, m1, r1⟩ := act_cls (L1 := rowUp L 415 r) h hEX j2 s1 fI1 (up415 r)
    obtain ⟨I3, e3, k1, k2, k3⟩ := kact_on (L1 := rowUp L 415 r) h (by rw [hi 433 (by omega)]) (hi 439 (by omega)) (hi 438 (by omega))
    have m3 : MI I3 T N := m1.fw fun x hx => k2 x (by omega) (by omega)
    have mdl : ∃ I2, mX12_close_l22 433 0 0 (hk σ I3 (rowUp L 415 r)) = some (nI (cln T N (T 1)).2, hk σ I2 (rowUp L 415 r)) ∧ rN I2 N' ∧ Rm (I2 447) 0 (lft T N') ∧ ∀ x, x ≠ 438 → x ≠ 447 → I2 x = I3 x := by
      unfold mX12_close_l22
      obtain ⟨o, e, I2, rfl, q⟩ := lp_inv (f := fun s : Int32 × Int32 × Hp => mX12_close_l22f 433 s.1 s.2.1 s.2.2) (T 1) (fun f st => ∃ I2, st = (nI (cln T N f).2, nI f, hk σ I2 (rowUp L 415 r)) ∧ rN I2 (cln T N f).1 ∧ Rm (I2 447) 0 (lft T (cln T N f).1) ∧ ∀ x, x ≠ 438 → x ≠ 447 → I2 x = I3 x)
        (fun o => ∃ I2, o = (nI (cln T N (T 1)).2, hk σ I2 (rowUp L 415 r)) ∧ rN I2 N' ∧ Rm (I2 447) 0 (lft T N') ∧ ∀ x, x ≠ 438 → x ≠ 447 → I2 x = I3 x)
        (fun f st hf hQ => by
          obtain ⟨I2, rfl, q1, q2, q3⟩ := hQ
          obtain ⟨y1, y2, y3⟩ := cln_EX hW h3 hc f (by omega)
          have mf : MI I2 T (cln T N f).1 := m3.act (fun x hx => q3 x (by omega) (by omega)) q1 y1.1 q2
          obtain ⟨I4, e4, t1, t2, t3⟩ := mclose1 (σ := σ) (L := rowUp L 415 r) (n := (cln T N f).2) mf y2 hf
          exact ⟨_, e4, I4, rfl, t1, t2, fun x a b => by rw [t3 x a b, q3 x a b]⟩)
        (fun st hQ => by
          obtain ⟨I2, rfl, q1, q2, q3⟩ := hQ
          have mf : MI I2 T (cln T N (T 1)).1 := m3.act (fun x hx => q3 x (by omega) (by omega)) q1 x1.1 q2
          refine ⟨(nI (cln T N (T 1)).2, hk σ (rowUp I2 438 (updA (I2 438) 16 1)) (rowUp L 415 r)), ?_, rowUp I2 438 (updA (I2 438) 16 1), rfl, fun i hi' => ?_, by rw [rowUp_ne _ _ (by omega), lh]; exact q2, fun x a b => by rw [rowUp_ne _ _ a, q3 x a b]⟩
          · show mX12_close_l22f 433 (nI (cln T N (T 1)).2) (nI (T 1)) (hk σ I2 (rowUp L 415 r)) = _
            unfold mX12_close_l22f
            rw [g434, ldT1 mf.1, obind, c_nlt (Nat.le_refl _) (by omega), g438, show (16 : Int32) = nI 16 from rfl, stI_ok (n := 83) rfl (by omega) (by omega), obind, setI_hk, hpI_hk', xts]
          · rw [rowUp_same, hN', updA_at, updA_at]
            by_cases e : i = 16
            · rw [if_pos e, if_pos e]; rfl
            · rw [if_neg e, if_neg e]; exact q1 i hi') (s := (nI 0, nI 0, hk σ I3 (rowUp L 415 r))) ⟨I3, rfl, m3.2.1, m3.2.2.2.2.2.2.2, fun _ _ _ => rfl⟩
      exact ⟨I2, e, q⟩
    obtain ⟨I2, em, t1, t2, t3⟩ := mdl
    obtain ⟨b1, b2⟩ := act_done h hEX j1 j2 j3 s1 fI1 (up415 r) (I2 := I2) (k1.fr ⟨by rw [t3 433 (by omega) (by omega)], t3 439 (by omega) (by omega)⟩) t1 t2 (fun x a b c d => by rw [t3 x b d, k2 x a c]) (fun k hk' => by rw [t3 433 (by omega) (by omega), k3 k hk']) (psh_EX p6 p2.1 h3)
    refine ⟨nI (cln T N (T 1)).2, I1, rowUp L 415 r, I2, rowUp L 415 r, _, _, _, _, _, ?_, ?_, b1, b2, by rw [fI1 1 (by unfold isSt at hsa; omega), j2 1 (by omega)]⟩
    · unfold mX11_close
      rw [if_pos s100, gSa, c1, obind, hc, if_pos (show nI 0 = 0 from rfl), gHist, obind, gSa, ea, obind, ec]
    · show mX12_close 433 (hk σ I1 (rowUp L 415 r)) = _
      unfold mX12_close
      rw [if_pos s433, g438, show (16 : Int32) = nI 16 from rfl, ldN m1.2.1 (by omega), obind, hc, if_neg (show ¬ nI 0 = 1 by decide), e3, obind, em]
  · have hc1 : N 16 = 1 := by omega
    refine AR.no' h (v := -2) ?_ ?_
    · unfold mX11_close
      rw [if_pos s100, gSa, c1, obind, hc1, if_neg (show ¬ nI 1 = 0 by decide)]
    · unfold mX12_close
      rw [if_pos s433, g438, c3, obind, hc1, if_pos (show nI 1 = 1 from rfl)]
end File
