section Days
variable {σ : Sg} {I I' J I1 I2 I3 Ja : Nat → Nat → Int32} {L L' L1 L2 : Nat → Nat → Int64} {T N N' M : Nat → Nat} {a a' : Nat} {P P' : Nat → Nat → Nat} {K : Nat → Bool} {Q : Nat → Nat → Nat}
theorem knF_hi (h : ∀ i, i < 16 → N' i = N i) : knF N' = knF N := bs_congr fun f hf => by unfold kn; rw [h f (by omega)]
theorem knS_hi (h : ∀ i, i < 16 → N' i = N i) : knS N' = knS N := bs_congr fun f hf => by unfold kn; rw [h f (by omega), h (8 + f) (by omega)]
theorem lft_hi (h : ∀ i, i < 16 → N' i = N i) : lft T N' = lft T N := by unfold lft; rw [knF_hi h, knS_hi h]
/-- a state where the facts are as they were -/
theorem CSt.hi {s : Nat} (h : CSt I s N) (hN : ∀ i, i < 16 → N' i = N i) (e0 : I' s 0 = nI (N' 17)) (e1 : I' s 1 = nI (N' 16)) (e2 : I' s 2 = nI (N' 18)) (e3 : I' s 3 = nI (bs (fun k => decide (it N' k 6 = 1)) (N' 18))) (e4 : ∀ k, 4 ≤ k → I' s k = I s k)
    (er : ∀ k, k < N' 18 → I' (s + 1) k = nI (it N' k 0) ∧ I' (s + 2) k = nI (it N' k 2) ∧ I' (s + 3) k = nI (it N' k 3) ∧ I' (s + 4) k = nI (it N' k 1) ∧ I' (s + 5) k = nI (it N' k 4) ∧ I' (s + 6) k = nI (it N' k 5)) : CSt I' s N' := by
  obtain ⟨⟨a0, a1, a2, a3, a4, a5, a6, a7, a8⟩, hb⟩ := h
  have c : ∀ v, bs (fun f => decide (N' f = v)) 8 = bs (fun f => decide (N f = v)) 8 := fun v => bs_congr fun f hf => by rw [hN f (by omega)]
  exact ⟨⟨e0, e1, e2, e3, by rw [e4 4 (by omega), a4, c], by rw [e4 5 (by omega), a5, c], by rw [e4 6 (by omega), a6, c], by rw [e4 7 (by omega), a7, c], by rw [e4 8 (by omega), a8, knS_hi hN]⟩, er⟩
/-- a number in a range -/
theorem rng (x : Int32) {lo hi : Nat} (h1 : lo ≤ hi) (h2 : hi < 2147483648) : (∃ n, x = nI n ∧ lo ≤ n ∧ n ≤ hi ∧ ¬ x < nI lo ∧ ¬ nI hi < x ∧ mX12_in x (nI lo) (nI hi) = some (bI true)) ∨ ((x < nI lo ∨ (¬ x < nI lo ∧ nI hi < x)) ∧ mX12_in x (nI lo) (nI hi) = some (bI false)) := by
  unfold mX12_in
  by_cases a1 : x < nI lo
  · exact Or.inr ⟨Or.inl a1, by rw [if_pos a1]; rfl⟩
  · by_cases a2 : nI hi < x
    · exact Or.inr ⟨Or.inr ⟨a1, a2⟩, by rw [if_neg a1, if_pos a2]; rfl⟩
    · left
      rcases ix_cases x with hx | ⟨n, hn, rfl⟩
      · exfalso
        apply a1
        have h0 : (0 : Int32).toInt = 0 := rfl
        have := Int32.lt_iff_toInt_lt.mp hx
        exact Int32.lt_iff_toInt_lt.mpr (by rw [nI_toInt (by omega)]; omega)
      · refine ⟨n, rfl, ?_, ?_, a1, a2, by rw [if_neg a1, if_neg a2]; rfl⟩
        · cases Nat.lt_or_ge n lo with
          | inl q => exact absurd (nI_lt q (by omega)) a1
          | inr q => exact q
        · cases Nat.lt_or_ge hi n with
          | inl q => exact absurd (nI_lt q hn) a2
          | inr q => exact q
/-- days -/
theorem q_days (h : BI σ I L T N a P K Q) (x : Int32) : AR σ I L T (mX11_days 100 x (hk σ I L)) (fun hp => mX12_days 433 x hp) := by
  obtain ⟨h1, h2, h3, ⟨p1, p2, p3, p4, p5, p6, p7⟩, h5, h6⟩ := id h
  have hsa := h1.1.2.1
  have n17 := h3.1.2.2.1
  rcases rng x (lo := 1) (hi := 999) (by omega) (by omega) with ⟨n, rfl, n1, n9, hc, hc2, hin⟩ | ⟨hor, hin⟩
  · have hc : ¬ nI n < (1 : Int32) := hc
    have hc2 : ¬ (999 : Int32) < nI n := hc2
    have hin : mX12_in (nI n) (1 : Int32) (999 : Int32) = some (bI true) := hin
    have ld17 : ∀ {I1 L1}, MI I1 T N → ldI 438 (17 : Int32) (hk σ I1 L1) = some (nI (N 17)) := fun {I1 L1} m => ldN m.2.1 (i := 17) (by omega)
    by_cases hl : 9999 < N 17 + n
    · refine AR.no' h (v := -2) ?_ ?_
      · unfold mX11_days
        rw [if_pos s100, if_neg hc, if_neg hc2, gSa, gI_st hsa, obind, h1.2.2.2.2.1.1, nI_add, if_pos (show (9999 : Int32) < nI (N 17 + n) from nI_lt (a := 9999) hl (by omega))]
      · unfold mX12_days
        rw [if_pos s433, hin, obind, bI_if0, if_neg nTF, g438, ld17 h2, obind, nI_add, if_pos (show (9999 : Int32) < nI (N 17 + n) from nI_lt (a := 9999) hl (by omega))]
    · have hle : N 17 + n ≤ 9999 := by omega
      have hng : ¬ (9999 : Int32) < nI (N 17 + n) := nI_nlt (a := 9999) (b := N 17 + n) hle (by omega)
      obtain ⟨N', hN'⟩ : ∃ N', N' = updA N 17 (N 17 + n) := ⟨_, rfl⟩
      have nh : ∀ i, i ≠ 17 → N' i = N i := fun i hi => by rw [hN', updA_ne _ _ hi]
      have n17' : N' 17 = N 17 + n := by rw [hN', updA_same]
      have lh : lft T N' = lft T N := lft_hi fun i hi => nh i (by omega)
      have ih : ∀ k j, it N' k j = it N k j := fun k j => nh _ (by omega)
      have hEX : EX T N' := by
        obtain ⟨⟨g1, g2, g3, g4, g5, g6⟩, g7⟩ := h3
        refine ⟨⟨fun f hf => ?_, by rw [nh 16 (by omega)]; exact g2, by omega, by rw [nh 18 (by omega)]; exact g4, fun k hk' => ?_, by rw [lh]; exact g6⟩, fun hc f hf => ?_⟩
        · unfold kn; rw [nh f (by omega), nh (8 + f) (by omega)]; exact g1 f hf
        · rw [nh 18 (by omega)] at hk'
          obtain ⟨b1, b2, b3⟩ := g5 k hk'
          simp only [ih]
          exact ⟨b1, by omega, b3⟩
        · rw [nh 16 (by omega)] at hc
          rw [nh f (by omega)]; exact g7 hc f hf
      obtain ⟨Ja, ea, j1, j2, j3, j4⟩ := h.note L
      have js : Ja (gsa σ) 0 = nI (N 17) := j4.1.1
      have c1 : CSt (rowUp Ja (gsa σ) (updA (Ja (gsa σ)) 0 (nI (N 17 + n)))) (gsa σ) N' := by
        refine j4.hi (fun i hi => nh i (by omega)) (by rw [rowUp_same, updA_same, n17']) (by rw [rowUp_same, updA_ne _ _ (by omega), nh 16 (by omega)]; exact j4.1.2.1) (by rw [rowUp_same, updA_ne _ _ (by omega), nh 18 (by omega)]; exact j4.1.2.2.1) (by simp only [ih]; rw [rowUp_same, updA_ne _ _ (by omega), nh 18 (by omega)]; exact j4.1.2.2.2.1) (fun k hk' => by rw [rowUp_same, updA_ne _ _ (by omega)]) (fun k hk' => ?_)
        rw [nh 18 (by omega)] at hk'
        simp only [ih]
        rw [rowUp_ne _ _ (by omega), rowUp_ne _ _ (by omega), rowUp_ne _ _ (by omega), rowUp_ne _ _ (by omega), rowUp_ne _ _ (by omega), rowUp_ne _ _ (by omega)]
        exact j4.2 k hk'
      have fI1 : ∀ x, (x < gsa σ ∨ gsa σ + 7 ≤ x) → rowUp Ja (gsa σ) (updA (Ja (gsa σ)) 0 (nI (N 17 + n))) x = Ja x := fun x hx => rowUp_ne _ _ (by omega)
      obtain ⟨hi, m1, r1⟩ := act_cls h hEX j2 c1 fI1 (fun _ _ => rfl)
      obtain ⟨I3, e3, k1, k2, k3⟩ := kact_on (L1 := L) h (by rw [hi 433 (by omega)]) (hi 439 (by omega)) (hi 438 (by omega))
      have m3 : MI I3 T N := m1.fw fun x hx => k2 x (by omega) (by omega)
      have rn : rN (rowUp I3 438 (updA (I3 438) 17 (nI (N 17 + n)))) N' := fun i hi' => by
        rw [rowUp_same, updA_at]
        by_cases e : i = 17
        · subst e; rw [if_pos rfl, n17']
        · rw [if_neg e, nh i e]; exact m3.2.1 i hi'
      obtain ⟨b1, b2⟩ := act_done h hEX j1 j2 j3 c1 fI1 (fun _ _ => rfl) (I2 := rowUp I3 438 (updA (I3 438) 17 (nI (N 17 + n)))) (L1 := L) (k1.fr ⟨by rw [rowUp_ne _ _ (by omega)], by rw [rowUp_ne _ _ (by omega)]⟩) rn (by rw [rowUp_ne _ _ (by omega), lh]; exact m3.2.2.2.2.2.2.2) (fun x a b c d => by rw [rowUp_ne _ _ b, k2 x a c]) (fun k hk' => by rw [rowUp_ne _ _ (by omega), k3 k hk']) (psh_EX p6 p2.1 h3)
      refine ⟨nI (N 17 + n), rowUp Ja (gsa σ) (updA (Ja (gsa σ)) 0 (nI (N 17 + n))), L, rowUp I3 438 (updA (I3 438) 17 (nI (N 17 + n))), L, _, _, _, _, _, ?_, ?_, b1, b2, by rw [fI1 1 (by unfold isSt at hsa; omega), j2 1 (by omega)]⟩
      · unfold mX11_days
        rw [if_pos s100, if_neg hc, if_neg hc2, gSa, gI_st hsa, obind, h1.2.2.2.2.1.1, nI_add, if_neg hng, gHist, obind, gSa, ea, obind, gSa, gI_st hsa, obind, js, nI_add, sI_ok (sSt hsa), obind, setI_hk, hpI_hk', gSa, gI_st hsa, obind, rowUp_same, updA_same]
      · show mX12_days 433 (nI n) (hk σ (rowUp Ja (gsa σ) (updA (Ja (gsa σ)) 0 (nI (N 17 + n)))) L) = _
        unfold mX12_days
        rw [if_pos s433, hin, obind, bI_if0, if_neg nTF, g438, ld17 m1, obind, nI_add, if_neg hng, e3, obind, g438, ld17 m3, obind, nI_add, show (17 : Int32) = nI 17 from rfl, stI_ok (n := 83) rfl (by omega) (by omega), obind, setI_hk, hpI_hk', g438, ldI_ok (n := 83) rfl (by omega) (by omega), obind, hpI_hk', rowUp_same, updA_same]
  · refine AR.no' h (v := -1) ?_ ?_
    · unfold mX11_days
      rw [if_pos s100]
      rcases hor with q | ⟨q1, q2⟩
      · rw [if_pos (show x < 1 from q)]
      · rw [if_neg (show ¬ x < 1 from q1), if_pos (show (999 : Int32) < x from q2)]
    · have hin : mX12_in x (1 : Int32) (999 : Int32) = some (bI false) := hin
      unfold mX12_days
      rw [if_pos s433, hin, obind, bI_if0, if_pos rfl]
end Days
