section Add
variable {σ : Sg} {I I' J I1 I2 I3 Ja : Nat → Nat → Int32} {L L' L1 L2 : Nat → Nat → Int64} {T N N' M : Nat → Nat} {a a' : Nat} {P P' : Nat → Nat → Nat} {K : Nat → Bool} {Q : Nat → Nat → Nat}
/-- say -/
theorem q_say (h : BI σ I L T N a P K Q) (x y z : Int32) : AR σ I L T (mX11_say 100 x y z (hk σ I L)) (fun hp => mX12_say 433 x y z hp) := by
  obtain ⟨h1, h2, h3, ⟨p1, p2, p3, p4, p5, p6, p7⟩, h5, h6⟩ := id h
  have hW := h1.2.1
  have w1 := hW.1.2.1
  have hsa := h1.1.2.1
  have h18 := h3.1.2.2.2.1.2
  have sl := bs_lt (fun k => decide (it N k 6 = 1)) (N 18)
  have sp := Nat.pow_le_pow_right (n := 2) (by omega) h18
  rcases ixn x (N 18) (by omega) with ⟨k, hk', rfl, hd⟩ | hd
  · rcases ixn y (T 1) (by omega) with ⟨f, hf, rfl, hdf⟩ | hdf
    · rcases ixn z 3 (by omega) with ⟨how, hh, rfl, hdh⟩ | hdh
      · have f8 : f < 8 := by omega
        have nf := (h3.1.1 f f8)
        have kF := knF_lt N
        have kS := knS_lt N
        have kb : (knF N).testBit f = kn N f := by unfold knF; rw [bs_bit, decide_eq_true f8, Bool.true_and]
        have ksb : kn N f = true → (knS N).testBit f = decide (N (8 + f) = 1) := fun q => by unfold knS; rw [bs_bit, decide_eq_true f8, Bool.true_and, q, Bool.true_and]
        obtain ⟨i4, i5, i54⟩ := WN.say hW h3.1 hk'
        obtain ⟨_, _, _, _, s5, s6⟩ := h1.2.2.2.2.2 k hk'
        have str : mX11_has (nI (bs (fun k => decide (it N k 6 = 1)) (N 18))) (nI k) = some (bI (decide (it N k 6 = 1))) := by
          rw [has_nI (by omega) (by omega), bs_bit, decide_eq_true hk', Bool.true_and]
        have n6 := (h3.1.2.2.2.2.1 k hk').2.2.2.2.2.2.1
        by_cases hs : it N k 6 = 1
        · refine AR.no' h (v := -2) ?_ ?_
          · unfold mX11_say
            rw [if_pos s100, cisCount_ok h1, obind, bI_if0, hd, if_neg nTF, cisFact_ok h1, obind, bI_if0, hdf, if_neg nTF, if_neg (nI_pos (show how < 2 ^ 31 by omega)), if_neg (n2_nlt hh), gSa, gI_st hsa, obind, h1.2.2.2.2.1.2.2.2.1, str, obind, bI_if0, decide_eq_true hs, if_neg nTF]
          · unfold mX12_say
            rw [if_pos s433, misCount_ok h2.2.1 h18, obind, bI_if0, hd, if_neg nTF, misFact_ok h2.1 w1, obind, bI_if0, hdf, if_neg nTF, in_2, hdh, obind, bI_if0, if_neg nTF, show (6 : Int32) = nI 6 from rfl, its_n h2.2.1 (by omega) (by omega), obind, hs, if_pos (show nI 1 = 1 from rfl)]
        · obtain ⟨cu, hcu⟩ : ∃ cu, cu = cur (it N k 4) (it N k 5) f := ⟨_, rfl⟩
          -- the class
          have b114 : mX11_say_b114 100 (nI k) (nI f) (nI how) (hk σ I L) = if how < 2 ∧ kn N f = true ∧ N (8 + f) ≠ how then some (-4, hk σ I L) else mX11_say_b160 100 (nI k) (nI f) (nI how) (hk σ I L) := by
            unfold mX11_say_b114
            rw [show (2 : Int32) = nI 2 from rfl, c_ltd (by omega) (by omega)]
            by_cases e : how < 2
            · rw [if_pos e, gSa, known_ok hsa h1.2.2.2.2, obind, has_nI (by omega) (by omega), obind, bI_if0, kb]
              cases q : kn N f
              · rw [if_pos rfl, if_neg (fun z => by cases z.2.1)]
              · rw [if_neg nTF, gSa, gI_st hsa, obind, h1.2.2.2.2.1.2.2.2.2.2.2.2.2, has_nI (by omega) (by omega), obind, ksb q, c_1 (by omega)]
                unfold mX11_say_b154
                rcases (show how = 0 ∨ how = 1 by omega) with rfl | rfl
                · rw [if_neg (by omega)]
                  by_cases n : N (8 + f) = 1
                  · rw [decide_eq_true n, if_neg (by decide), if_pos ⟨by omega, rfl, by omega⟩]
                  · rw [decide_eq_false n, if_pos (show bI false = 0 from rfl), if_neg (fun z => z.2.2 (by have := nf.2.1; omega))]
                · rw [if_pos rfl]
                  by_cases n : N (8 + f) = 1
                  · rw [decide_eq_true n, if_pos (show bI true = 1 from rfl), if_neg (fun z => z.2.2 n)]
                  · rw [decide_eq_false n, if_neg (by decide), if_pos ⟨by omega, rfl, n⟩]
            · rw [if_neg e, if_neg (fun z => e z.1)]
          have cls : mX11_say 100 (nI k) (nI f) (nI how) (hk σ I L) = if cu = how then some (-3, hk σ I L) else mX11_say_b114 100 (nI k) (nI f) (nI how) (hk σ I L) := by
            unfold mX11_say
            rw [if_pos s100, cisCount_ok h1, obind, bI_if0, hd, if_neg nTF, cisFact_ok h1, obind, bI_if0, hdf, if_neg nTF, if_neg (nI_pos (show how < 2 ^ 31 by omega)), if_neg (n2_nlt hh), gSa, gI_st hsa, obind, h1.2.2.2.2.1.2.2.2.1, str, obind, bI_if0, decide_eq_false hs, if_pos rfl, gSa, gR_st hsa, obind, RF_st_13 σ hsa, at_r (SH_st5 hsa) (by omega) (by omega), obind, s5, has_nI (by omega) (by omega), obind, gSa, gR_st hsa, obind, RF_st_14 σ hsa, at_r (SH_st6 hsa) (by omega) (by omega), obind, s6, has_nI (by omega) (by omega), obind, hcu]
            unfold mX11_say_b108 cur
            rcases (show how = 0 ∨ how = 1 ∨ how = 2 by omega) with rfl | rfl | rfl <;> cases (it N k 4).testBit f <;> cases (it N k 5).testBit f <;> rfl
          -- the reference
          have mdl : ∀ {I1 L1}, MI I1 T N → mX12_say 433 (nI k) (nI f) (nI how) (hk σ I1 L1) = if cu = how then some (-3, hk σ I1 L1) else if how < 2 ∧ kn N f = true ∧ N (8 + f) ≠ how then some (-4, hk σ I1 L1) else mX12_say_b108 433 (nI k) (nI f) (nI how) (hk σ I1 L1) := fun {I1 L1} m => by
            have b68 : ∀ t, t < 3 → mX12_say_b68 433 (nI k) (nI f) (nI how) (nI t) (hk σ I1 L1) = if t = how then some (-3, hk σ I1 L1) else if how < 2 ∧ kn N f = true ∧ N (8 + f) ≠ how then some (-4, hk σ I1 L1) else mX12_say_b108 433 (nI k) (nI f) (nI how) (hk σ I1 L1) := fun t ht => by
              unfold mX12_say_b68
              rw [c_eqd (by omega) (by omega), show (2 : Int32) = nI 2 from rfl, c_ltd (by omega) (by omega), isKnown_ok m.2.1 f8 (by omega), obind, bI_if0, g438, show (8 : Int32) = nI 8 from rfl, nI_add, ldN m.2.1 (by omega), obind, c_eqd (by omega) (by omega)]
              by_cases e0 : t = how
              · rw [if_pos e0, if_pos e0]
              · rw [if_neg e0, if_neg e0]
                by_cases e : how < 2
                · rw [if_pos e]
                  cases q : kn N f
                  · rw [if_pos rfl, if_neg (fun z => by cases z.2.1)]
                  · rw [if_neg nTF]
                    by_cases n : N (8 + f) = how
                    · rw [if_pos n, if_neg (fun z => z.2.2 n)]
                    · rw [if_neg n, if_pos ⟨e, rfl, n⟩]
                · rw [if_neg e, if_neg (fun z => e z.1)]
            unfold mX12_say
            rw [if_pos s433, misCount_ok m.2.1 h18, obind, bI_if0, hd, if_neg nTF, misFact_ok m.1 w1, obind, bI_if0, hdf, if_neg nTF, in_2, hdh, obind, bI_if0, if_neg nTF, show (6 : Int32) = nI 6 from rfl, its_n m.2.1 (by omega) (by omega), obind, c_1 (by omega), if_neg hs, show (4 : Int32) = nI 4 from rfl, its_n m.2.1 (by omega) (by omega), obind, mhas_nI (by omega) (by omega), obind, bI_if0, show (5 : Int32) = nI 5 from rfl, its_n m.2.1 (by omega) (by omega), obind, bit_n (by omega) (by omega), hcu]
            unfold cur
            cases (it N k 4).testBit f
            · rw [if_pos rfl]; exact b68 2 (by omega)
            · rw [if_neg nTF]
              cases (it N k 5).testBit f
              · exact b68 0 (by omega)
              · exact b68 1 (by omega)
          by_cases e1 : cu = how
          · refine AR.no' h (v := -3) ?_ ?_
            · rw [cls, if_pos e1]
            · show mX12_say 433 (nI k) (nI f) (nI how) (hk σ I L) = _
              rw [mdl h2, if_pos e1]
          · by_cases e2 : how < 2 ∧ kn N f = true ∧ N (8 + f) ≠ how
            · refine AR.no' h (v := -4) ?_ ?_
              · rw [cls, if_neg e1, b114, if_pos e2]
              · show mX12_say 433 (nI k) (nI f) (nI how) (hk σ I L) = _
                rw [mdl h2, if_neg e1, if_pos e2]
            · obtain ⟨I1, I2, N', a', P', K', Q', g1, m1, g2, b1, b2⟩ := say_fin h hk' hf hh
              refine ⟨nI (pc (tlS (it N k 4) f how)), I1, L, I2, L, N', a', P', K', Q', ?_, ?_, b1, b2⟩
              · rw [cls, if_neg e1, b114, if_neg e2]; exact g1
              · show mX12_say 433 (nI k) (nI f) (nI how) (hk σ I1 L) = _
                rw [mdl m1, if_neg e1, if_neg e2]; exact g2
      · refine AR.no' h (v := -1) ?_ ?_
        · unfold mX11_say
          rw [if_pos s100, cisCount_ok h1, obind, bI_if0, hd, if_neg nTF, cisFact_ok h1, obind, bI_if0, hdf, if_neg nTF]
          rcases ix_cases z with hy | ⟨j, hj, rfl⟩
          · rw [if_pos hy]
          · rw [nI_toInt hj] at hdh
            have := of_decide_eq_false hdh
            rw [if_neg (nI_pos hj), if_pos (show (2 : Int32) < nI j from nI_lt (show 2 < j by omega) hj)]
        · unfold mX12_say
          rw [if_pos s433, misCount_ok h2.2.1 h18, obind, bI_if0, hd, if_neg nTF, misFact_ok h2.1 w1, obind, bI_if0, hdf, if_neg nTF, in_2, hdh, obind, bI_if0, if_pos rfl]
    · refine AR.no' h (v := -1) ?_ ?_
      · unfold mX11_say
        rw [if_pos s100, cisCount_ok h1, obind, bI_if0, hd, if_neg nTF, cisFact_ok h1, obind, bI_if0, hdf, if_pos rfl]
      · unfold mX12_say
        rw [if_pos s433, misCount_ok h2.2.1 h18, obind, bI_if0, hd, if_neg nTF, misFact_ok h2.1 w1, obind, bI_if0, hdf, if_pos rfl]
  · refine AR.no' h (v := -1) ?_ ?_
    · unfold mX11_say
      rw [if_pos s100, cisCount_ok h1, obind, bI_if0, hd, if_pos rfl]
    · unfold mX12_say
      rw [if_pos s433, misCount_ok h2.2.1 h18, obind, bI_if0, hd, if_pos rfl]
/-- a COUNT more -/
def fld (b dy w r li j : Nat) : Nat := if j = 0 then b else if j = 1 then dy else if j = 2 then w else if j = 3 then r else if j = 7 then li else 0
def adN (N : Nat → Nat) (li w r : Nat) : Nat → Nat := fun i => if i = 18 then N 18 + 1 else if 19 + 8 * N 18 ≤ i ∧ i < 27 + 8 * N 18 then fld (it N li 0) (N 17) w r li (i - (19 + 8 * N 18)) else N i
theorem adN_lo {li w r i : Nat} (h : i < 18) : adN N li w r i = N i := by unfold adN; rw [if_neg (by omega), if_neg (by omega)]
theorem adN_18 {li w r : Nat} : adN N li w r 18 = N 18 + 1 := by unfold adN; rw [if_pos rfl]
theorem adN_it {li w r k j : Nat} (hj : j < 8) : it (adN N li w r) k j = if k = N 18 then fld (it N li 0) (N 17) w r li j else it N k j := by
  unfold it adN
  rw [if_neg (by omega)]
  by_cases e : k = N 18
  · subst e
    rw [if_pos (by omega), if_pos rfl, Nat.add_sub_cancel_left]; rfl
  · rw [if_neg e]
    rw [if_neg (by omega)]
theorem EX.add {li w r : Nat} (h : EX T N) (h8 : N 18 < 8) (hl : li < N 18) (hw : w ≤ 999) (hr : r ≤ 999) : EX T (adN N li w r) := by
  have lh : lft T (adN N li w r) = lft T N := lft_hi fun i hi => adN_lo (by omega)
  obtain ⟨⟨g1, g2, g3, g4, g5, g6⟩, g7⟩ := h
  have gl := g5 li hl
  refine ⟨⟨fun f hf => ?_, by rw [adN_lo (by omega)]; exact g2, by rw [adN_lo (by omega)]; exact g3, by rw [adN_18]; omega, fun k hk' => ?_, by rw [lh]; exact g6⟩, fun hc f hf => ?_⟩
  · unfold kn; rw [adN_lo (by omega), adN_lo (by omega)]; exact g1 f hf
  · rw [adN_18] at hk'
    by_cases e : k = N 18
    · subst e
      have i7 : it (adN N li w r) (N 18) 7 = li := by rw [adN_it (by omega), if_pos rfl]; rfl
      have i0 : it (adN N li w r) (N 18) 0 = it N li 0 := by rw [adN_it (by omega), if_pos rfl]; rfl
      have il0 : it (adN N li w r) li 0 = it N li 0 := by rw [adN_it (by omega), if_neg (by omega)]
      have i1 : it (adN N li w r) (N 18) 1 = N 17 := by rw [adN_it (by omega), if_pos rfl]; rfl
      have i2 : it (adN N li w r) (N 18) 2 = w := by rw [adN_it (by omega), if_pos rfl]; rfl
      have i3 : it (adN N li w r) (N 18) 3 = r := by rw [adN_it (by omega), if_pos rfl]; rfl
      have i4 : it (adN N li w r) (N 18) 4 = 0 := by rw [adN_it (by omega), if_pos rfl]; rfl
      have i5 : it (adN N li w r) (N 18) 5 = 0 := by rw [adN_it (by omega), if_pos rfl]; rfl
      have i6 : it (adN N li w r) (N 18) 6 = 0 := by rw [adN_it (by omega), if_pos rfl]; rfl
      rw [i7, i0, il0, i1, i2, i3, i4, i5, i6, adN_lo (by omega)]
      refine ⟨gl.1, Nat.le_refl _, hw, hr, Nat.two_pow_pos _, rfl, by omega, by omega, rfl, fun q => by omega, fun _ => hl, fun j hj => ?_⟩
      rw [adN_it (by omega), if_neg (by omega)]
      exact (g5 j (by omega)).2.1
    · have hk2 : k < N 18 := by omega
      obtain ⟨b1, b2, b3, b4, b5, b6, b7, b8, b9, b10, b11, b12⟩ := g5 k hk2
      have ik : ∀ j, j < 8 → it (adN N li w r) k j = it N k j := fun j hj => by rw [adN_it hj, if_neg e]
      have ij : ∀ j, j < N 18 → it (adN N li w r) j 1 = it N j 1 := fun j hj => by rw [adN_it (by omega), if_neg (by omega)]
      have i70 : it (adN N li w r) (it N k 7) 0 = it N (it N k 7) 0 := by rw [adN_it (by omega), if_neg (by omega)]
      rw [ik 0 (by omega), ik 1 (by omega), ik 2 (by omega), ik 3 (by omega), ik 4 (by omega), ik 5 (by omega), ik 6 (by omega), ik 7 (by omega), i70, adN_lo (by omega)]
      exact ⟨b1, b2, b3, b4, b5, b6, b7, b8, b9, b10, b11, fun j hj => by rw [ij j (by omega)]; exact b12 j hj⟩
  · rw [adN_lo (by omega)] at hc
    rw [adN_lo (by omega)]; exact g7 hc f hf
end Add
