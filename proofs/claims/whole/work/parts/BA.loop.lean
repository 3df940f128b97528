section SuitLoop
variable {σ τ : Sg} {I I' J J' I1 I2 I3 Ja : Nat → Nat → Int32} {L L' M M' L1 L2 : Nat → Nat → Int64} {X : Nat → Nat} {n m i i2 la off t1 t2 fl pl dp h0 N kk lim s k b j w r c : Nat} {W : Nat → List Nat} {T T' : Nat → Nat}
theorem mtk0 (X : Nat → Nat) (n b : Nat) : (mtk X n b = 0 ↔ ck X n b = 0) ∧ mtk X n b < 100 := by
  rcases tkc_all X n b with ⟨_, e1, e2⟩ | ⟨_, e1, e2⟩ | ⟨w', _, hw', e1, e2, e3⟩ | ⟨l, _, hl, e1, e2, e3, e4, e5⟩ | ⟨_, e1, e2, e3, e4⟩ | ⟨_, e1, e2, e3⟩
  · omega
  · omega
  · omega
  · omega
  · omega
  · have := mrk_c e1; omega
/-- all lines, on both sides -/
theorem loop_ok (hla : isLa la) (hg : gpl σ = la) (hgs : gps σ = s) (hs : s = 268 ∨ s = 275) : ∀ (d : Nat) {I J : Nat → Nat → Int32} {L M : Nat → Nat → Int64} {i : Nat} {W : Nat → List Nat} {T : Nat → Nat} {lim : Nat}, m - i ≤ d → T 0 ≤ i → SV I J L M X n m i la s W T lim →
    (∃ I' J' L' M' W' T' lim', mX2_readSuit_l26 282 (nI (T 0)) (hk σ I L) = some (1, hk σ I' L') ∧ (∀ r, mX12_suit_b61 433 (hk τ J' M') = some r → mX12_suit_l40 433 (hk τ J M) = some r) ∧ SV I' J' L' M' X n m m la s W' T' lim' ∧ T' 0 ≤ 480 ∧ FS la s I L I' L' ∧ MFr J M J' M') ∨
    (∃ fl pl I' J' L' M', mX2_readSuit_l26 282 (nI (T 0)) (hk σ I L) = some (0, hk σ I' L') ∧ (∀ r, mX12_suit_b61 433 (hk τ J' M') = some r → mX12_suit_l40 433 (hk τ J M) = some r) ∧ CFl I' fl pl ∧ MFl J' fl pl ∧ FS la s I L I' L' ∧ MFr J M J' M') := by
  have hla' : la = 112 ∨ la = 190 := hla
  intro d
  induction d with
  | zero =>
    intro I J L M i W T lim hd h0 h
    obtain ⟨⟨dp, hp⟩, _⟩ := id h
    have him : i = m := by have := hp.1.2.2.2.2.2.2; omega
    subst him
    have hc0 : ck X n (pz X n i) = 0 := hp.1.end_iff.mpr rfl
    have m0 := (mtk0 X n (pz X n i)).1.mpr hc0
    have := hp.1.le.2
    refine Or.inl ⟨I, J, L, M, W, T, lim, ?_, fun r hr => ?_, h, by omega, FS.rf, MFr.rf⟩
    · unfold mX2_readSuit_l26
      refine lp_inr ?_
      show mX2_readSuit_l26f 282 (nI (T 0)) (hk σ I L) = _
      unfold mX2_readSuit_l26f
      rw [nextKind_ok hp.1, obind, hc0, if_pos (show nI 0 = (0 : Int32) from rfl), xts]
      split <;> rfl
    · unfold mX12_suit_l40
      refine lp_inr ?_
      show mX12_suit_l40f 433 (hk τ J M) = _
      unfold mX12_suit_l40f
      rw [gMI, obind, if_pos hp.2.1.2.2, gMI, obind, hp.2.1.2.1.2.2.1, m0, if_pos (show nI 0 = (0 : Int32) from rfl), hr, xts]
  | succ d ih =>
    intro I J L M i W T lim hd h0 h
    obtain ⟨⟨dp, hp⟩, _⟩ := id h
    by_cases hc0 : ck X n (pz X n i) = 0
    · have him : i = m := hp.1.end_iff.mp hc0
      exact ih (by omega) h0 h
    · have him : i ≠ m := fun z => hc0 (hp.1.end_iff.mpr z)
      have hm : i < m := by have := hp.1.2.2.2.2.2.2; omega
      have h480 : T 0 < 480 := by have := hp.1.1; have := hp.1.2.1; omega
      have hlt := ck_lt X n (pz X n i)
      have m0 : mtk X n (pz X n i) ≠ 0 := fun z => hc0 ((mtk0 X n (pz X n i)).1.mp z)
      have m100 := (mtk0 X n (pz X n i)).2
      have mst : ∀ {o : Hp}, mX12_readLine 433 (hk τ J M) = some o → mX12_suit_l40 433 (hk τ J M) = mX12_suit_l40 433 o := fun {o} e => by
        unfold mX12_suit_l40
        refine lp_inl ?_
        show mX12_suit_l40f 433 (hk τ J M) = _
        unfold mX12_suit_l40f
        rw [gMI, obind, if_pos hp.2.1.2.2, gMI, obind, hp.2.1.2.1.2.2.1, c_0 (by omega), if_neg m0, e, obind]
      rcases line_ok (σ := σ) (τ := τ) hla hg hgs hs h hc0 with ⟨I', J', L', M', i', W', T', lim', v, e1, ev, e2, e3, hi, e5, e6, e7⟩ | ⟨fl, pl, I', J', L', M', e1, e2, e3, e4, e5, e6⟩
      · have fs1 : FS la s I L (rowUp I' la (updA (I' la) 0 (v + 1))) L' := e5.tr ⟨fun x a b c d => rowUp_ne _ _ (by omega), fun _ _ _ _ => rfl⟩
        have cst : mX2_readSuit_l26 282 (nI (T 0)) (hk σ I L) = mX2_readSuit_l26 282 (nI (T' 0)) (hk σ (rowUp I' la (updA (I' la) 0 (v + 1))) L') := by
          unfold mX2_readSuit_l26
          refine lp_inl ?_
          show mX2_readSuit_l26f 282 (nI (T 0)) (hk σ I L) = _
          unfold mX2_readSuit_l26f
          rw [if_pos (show nI (T 0) < (480 : Int32) from nI_lt (b := 480) h480 (by omega)), nextKind_ok hp.1, obind, c_0 (by omega), if_neg hc0, e1, b2s, if_neg (show ¬ (1 : Int32) = 0 by decide), gDr, hg, gI_la hla, obind, ev, sI_la hla, obind, nI_1, e7]
        rcases ih (by have := (show i' ≤ m from by obtain ⟨⟨dp', hp'⟩, _⟩ := e3; exact hp'.1.2.2.2.2.2.2); omega) (by omega) e3 with ⟨I2, J2, L2, M2, W2, T2, lim2, d1, d2, d3, d4, d5, d6⟩ | ⟨fl, pl, I2, J2, L2, M2, d1, d2, d3, d4, d5, d6⟩
        · exact Or.inl ⟨I2, J2, L2, M2, W2, T2, lim2, by rw [cst, d1], fun r hr => by rw [mst e2]; exact d2 r hr, d3, d4, fs1.tr d5, e6.tr d6⟩
        · exact Or.inr ⟨fl, pl, I2, J2, L2, M2, by rw [cst, d1], fun r hr => by rw [mst e2]; exact d2 r hr, d3, d4, fs1.tr d5, e6.tr d6⟩
      · refine Or.inr ⟨fl, pl, I', J', L', M', ?_, fun r hr => ?_, e3, e4, e5, e6⟩
        · unfold mX2_readSuit_l26
          refine lp_inr ?_
          show mX2_readSuit_l26f 282 (nI (T 0)) (hk σ I L) = _
          unfold mX2_readSuit_l26f
          rw [if_pos (show nI (T 0) < (480 : Int32) from nI_lt (b := 480) h480 (by omega)), nextKind_ok hp.1, obind, c_0 (by omega), if_neg hc0, e1, b2s, if_pos rfl, xts]
        · rw [mst e2]
          unfold mX12_suit_l40
          refine lp_inr ?_
          show mX12_suit_l40f 433 (hk τ J' M') = _
          unfold mX12_suit_l40f
          rw [gMI, obind, if_neg e4.ne, hr, xts]
end SuitLoop
