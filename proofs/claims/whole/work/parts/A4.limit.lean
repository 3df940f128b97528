section Limit
variable {σ τ : Sg} {I I' J J' I1 I2 I3 Ja : Nat → Nat → Int32} {L L' M M' L1 L2 : Nat → Nat → Int64} {X : Nat → Nat} {n m i la off t1 t2 fl pl dp h0 N kk lim : Nat} {W : Nat → List Nat} {T T' : Nat → Nat}
theorem PCk.row (h : PCk I X n m i) {x : Nat} (r : Nat → Int32) (hx : 107 < x) (h2 : x ≠ 282) : PCk (rowUp I x r) X n m i :=
  ⟨⟨h.1.1, by rw [rowUp_ne _ _ (by omega)]; exact h.1.2⟩, h.2.1, ⟨by rw [rowUp_ne _ _ (by omega)]; exact h.2.2.1.1, fun j hj => by rw [rowUp_ne _ _ (by omega), rowUp_ne _ _ (by omega), rowUp_ne _ _ (by omega)]; exact h.2.2.1.2 j hj⟩, h.2.2.2.1, h.2.2.2.2.1, by rw [rowUp_ne _ _ (by omega)]; exact h.2.2.2.2.2.1, h.2.2.2.2.2.2⟩
theorem CN.fld (h : CN I la t1 t2 W) (hla : isLa la) {k : Nat} (v : Int32) (h1 : k ≠ 1) (h2 : k ≠ 2) : CN (rowUp I la (updA (I la) k v)) la t1 t2 W := by
  refine ⟨h.1, h.2.1, by rw [rowUp_same, updA_ne _ _ (by omega)]; exact h.2.2.1, by rw [rowUp_same, updA_ne _ _ (by omega)]; exact h.2.2.2.1, ?_, ?_⟩
  · rw [rowUp_ne _ _ (by omega)]; exact h.2.2.2.2.1
  · rw [rowUp_ne _ _ (by omega)]; exact h.2.2.2.2.2
theorem CK.fld (h : CK I la off T) {k : Nat} (v : Int32) (h13 : k ≠ 13) : CK (rowUp I la (updA (I la) k v)) la off T :=
  ⟨by rw [rowUp_same, updA_ne _ _ (by omega)]; exact h.1, by rw [rowUp_ne _ _ (by omega)]; exact h.2⟩
theorem la_gt (hla : isLa la) : 107 < la ∧ la < 282 := by rcases hla with rfl | rfl <;> omega
theorem sI_la (hla : isLa la) (k : Nat) (v : Int32) : sI 1 k la v (hk σ I L) = some (hk σ (rowUp I la (updA (I la) k v)) L) := by
  rw [sI_ok (by rw [hpS_hk, (la_sh hla (gN σ)).1]), setI_hk, hpI_hk']
/-- what a failure leaves, for a line -/
def LN (I : Nat → Nat → Int32) (J : Nat → Nat → Int32) (M : Nat → Nat → Int64) (T : Nat → Nat) (fl pl : Nat) (I' J' : Nat → Nat → Int32) (M' : Nat → Nat → Int64) : Prop :=
  CFl I' fl pl ∧ MFl J' fl pl ∧ MFr J M J' M' ∧ ∃ T', rTd J' T' ∧ ∀ j, j < 84 → j ≠ 7 → T' j = T j
/-- limit -/
theorem limit_ok (hla : isLa la) (hg : gpl σ = la) (h : PE I J M X n m i la 0 W t1 t2 T dp) (hc0 : ck X n (pz X n i) ≠ 0) (hc1 : ck X n (pz X n i) ≠ 1) (hl : I la 5 = nI lim) (h999 : lim ≤ 999) (h22 : J 433 22 = bI (decide (lim ≠ 0))) :
    (∃ v I' J' M' i', lim = 0 ∧ 1 ≤ v ∧ v ≤ 999 ∧ mX2_readLimit 282 (hk σ I L) = some (1, hk σ I' L) ∧ mX12_readLimit 433 (hk τ J M) = some (hk τ J' M') ∧ PE I' J' M' X n m i' la 0 W t1 t2 (updA T 5 v) dp ∧ i < i' ∧ I' la 5 = nI v ∧ J' 433 22 = 1 ∧ (∀ x, x ≠ 282 → x ≠ la → I' x = I x) ∧ (∀ k, k ≠ 5 → I' la k = I la k) ∧ MFr J M J' M' ∧ M' 437 = M 437) ∨
    (∃ fl pl I' J' M', mX2_readLimit 282 (hk σ I L) = some (0, hk σ I' L) ∧ mX12_readLimit 433 (hk τ J M) = some (hk τ J' M') ∧ LN I J M T fl pl I' J' M' ∧ (∀ x, x ≠ 282 → x ≠ la → I' x = I x)) := by
  have hgt := la_gt hla
  unfold mX2_readLimit mX12_readLimit
  rw [if_pos s282, if_pos s433, gDr, hg, gI_la hla, obind, hl, gMI, obind, h22, c_0 (by omega)]
  by_cases q : lim = 0
  · rw [if_pos q, if_pos (show bI (decide (lim ≠ 0)) = 0 by rw [decide_eq_false (fun z => z q)]; rfl), gPI, obind, h.1.2.2.2.2.2.1, sI_ok s282, obind, setI_hk, hpI_hk', nI_1]
    unfold mX12_readLimit_b12
    obtain ⟨u, w, e1, y2, y3⟩ := PMk.ps (σ := τ) h.2.1
    have p1 := h.nx hla hc0 y2 y3
    rw [e1, obind]
    rcases num_ok (σ := σ) (τ := τ) (L := L) p1.1 p1.2.1 (lo := 1) (hi := 999) (by omega) (by omega) with ⟨v, hv1, hv2, ⟨I1, a1, a2, a3, a4⟩, J1, M1, b1, b2', b3⟩ | ⟨fl, pl, ⟨I1, a1, a2, a3⟩, v, J1, M1, b1, b2', b3⟩
    · have a1 : mX2_number 282 (1 : Int32) (999 : Int32) (hk σ (rowUp I 282 (updA (I 282) 5 (nI (i + 1)))) L) = some (1, hk σ I1 L) := a1
      have b1 : mX12_number 433 (1 : Int32) (999 : Int32) (hk τ (rowUp J 433 u) (rowUp M 433 w)) = some (nI v, hk τ J1 M1) := b1
      have p2 := p1.go hla a2 a3 b2' b3
      have r2 := a2.row (x := la) (updA (I1 la) 5 (nI v)) hgt.1 (by omega)
      rw [a1, b2s, if_neg (show ¬ (1 : Int32) = 0 by decide), gDr, hg, gPI, obind, a4, sI_la hla, obind, b1, b2s, show (59 : Int32) = nI 59 from rfl, isSign_ok p2.2.1.2.1 p2.2.1.2.2 (by decide), obind]
      rcases exp_ok (σ := σ) (τ := τ) (L := L) r2 p2.2.1 (c := 59) (by omega) (by omega) with ⟨_, ⟨I2, x1, x2, x3, x4⟩, J2, M2, z1, z2, z3⟩ | ⟨_, fl, pl, ⟨I2, x1, x2, x3⟩, J2, M2, z1, z2, z3⟩
      · have p3 : PE (rowUp I1 la (updA (I1 la) 5 (nI v))) J1 M1 X n m (i + 1 + 1) la 0 W t1 t2 T dp := ⟨r2, p2.2.1, CN.fld p2.2.2.1 hla _ (by omega) (by omega), p2.2.2.2.1, p2.2.2.2.2.1, CK.fld p2.2.2.2.2.2.1 _ (by omega), p2.2.2.2.2.2.2.1, p2.2.2.2.2.2.2.2⟩
        have p4 := p3.go hla x2 x3 z2 z3
        -- the flag
        obtain ⟨J3, hJ3⟩ : ∃ J3, J3 = rowUp J2 433 (updA (J2 433) 22 (1 : Int32)) := ⟨_, rfl⟩
        have e3 : ∀ k, k ≠ 22 → J3 433 k = J2 433 k := fun k hk' => by rw [hJ3, rowUp_same, updA_ne _ _ hk']
        have o3 : ∀ x, x ≠ 433 → J3 x = J2 x := fun x hx => by rw [hJ3, rowUp_ne _ _ hx]
        have p5 : PE I2 J3 M2 X n m (i + 1 + 1 + 1) la 0 W t1 t2 T dp := by
          refine ⟨p4.1, ⟨⟨p4.2.1.1.1, by rw [e3 11 (by omega)]; exact p4.2.1.1.2.1, fun j hj => by rw [o3 442 (by omega)]; exact p4.2.1.1.2.2 j hj⟩, ⟨by rw [e3 12 (by omega)]; exact p4.2.1.2.1.1, by rw [e3 13 (by omega)]; exact p4.2.1.2.1.2.1, by rw [e3 14 (by omega)]; exact p4.2.1.2.1.2.2.1, by rw [e3 15 (by omega)]; exact p4.2.1.2.1.2.2.2.1, p4.2.1.2.1.2.2.2.2⟩, by rw [e3 17 (by omega)]; exact p4.2.1.2.2⟩, p4.2.2.1, ?_, fun j hj => by rw [o3 435 (by omega)]; exact p4.2.2.2.2.1 j hj, p4.2.2.2.2.2.1, p4.2.2.2.2.2.2.1, by rw [e3 16 (by omega)]; exact p4.2.2.2.2.2.2.2⟩
          have := p4.2.2.2.1
          unfold MN at this ⊢
          rw [o3 435 (by omega)]
          exact this
        have p6 := p5.set (k := 5) v (by omega) (by omega) (by omega) (by omega)
        refine Or.inl ⟨v, I2, _, M2, _, q, hv1, hv2, by rw [x1, b2s]; rfl, ?_, p6, by omega, ?_, ?_, fun x hx hx2 => ?_, fun k hk' => ?_, ?_, ?_⟩
        · rw [z1, obind, gMI, obind, if_pos p4.2.1.2.2, show sZ 12 22 433 (1 : Int32) (hk τ J2 M2) = some (hk τ J3 M2) from by rw [hJ3, sZ_ok s433 (Or.inr rfl), setI_hk, hpI_hk'], obind, gM 1, RF_433_1, show (5 : Int32) = nI 5 from rfl, st435 _ (by omega), obind]
        · rw [x3 la (by omega), rowUp_same, updA_same]
        · rw [rowUp_ne _ _ (by omega), hJ3, rowUp_same, updA_same]
        · rw [x3 x hx, rowUp_ne _ _ hx2, a3 x hx, rowUp_ne _ _ hx]
        · rw [x3 la (by omega), rowUp_same, updA_ne _ _ hk', a3 la (by omega), rowUp_ne _ _ (by omega)]
        · refine (y3.1.tr (b3.1.tr z3.1)).tr ⟨fun x a b c d => ⟨by rw [rowUp_ne _ _ b, o3 x a], rfl⟩, fun k a b => by rw [rowUp_ne _ _ (by omega), e3 k b], fun _ _ => rfl, rfl, by rw [rowUp_ne _ _ (by omega), o3 437 (by omega)]⟩
        · rw [z3.2.2.1, b3.2.2.1, y3.2.2.1]
      · refine Or.inr ⟨fl, pl, I2, J2, M2, by rw [x1, b2s]; rfl, ?_, ⟨x2, z2, y3.1.tr (b3.1.tr z3.1), T, p2.2.2.2.2.1.mf z3, fun _ _ _ => rfl⟩, fun x hx hx2 => by rw [x3 x hx, rowUp_ne _ _ hx2, a3 x hx, rowUp_ne _ _ hx]⟩
        rw [z1, obind, gMI, obind, if_neg z2.ne]
    · have a1 : mX2_number 282 (1 : Int32) (999 : Int32) (hk σ (rowUp I 282 (updA (I 282) 5 (nI (i + 1)))) L) = some (0, hk σ I1 L) := a1
      have b1 : mX12_number 433 (1 : Int32) (999 : Int32) (hk τ (rowUp J 433 u) (rowUp M 433 w)) = some (v, hk τ J1 M1) := b1
      rw [a1, b2s, if_pos rfl, b1, b2s, isSign_bad b2'.ne, obind, must_bad b2', obind, gMI, obind, if_neg b2'.ne]
      exact Or.inr ⟨fl, pl, I1, J1, M1, rfl, rfl, ⟨a2, b2', y3.1.tr b3.1, T, p1.2.2.2.2.1.mf b3, fun _ _ _ => rfl⟩, fun x hx hx2 => by rw [a3 x hx, rowUp_ne _ _ hx]⟩
  · obtain ⟨I1, e1, c1, d1⟩ := fail_b2 (σ := σ) (L := L) h.1 (f := 3) (by omega) (by omega)
    obtain ⟨u, w1, w2, w3⟩ := wrong_ok (σ := τ) h.2.1 (f := 3) (by omega) (by omega)
    have w1 : mX12_wrong 433 (3 : Int32) (hk τ J M) = some (hk τ (rowUp J 433 u) M) := w1
    have e1 : (b2 (mX2_fail 282 (3 : Int32) (hk σ I L)) fun v12 h13 => (z01 v12).bind fun v => some (v, h13)) = some (0, hk σ I1 L) := e1
    rw [if_neg hc1] at w2
    rw [if_neg q, if_neg (show ¬ bI (decide (lim ≠ 0)) = 0 by rw [decide_eq_true q]; decide), e1, w1, obind]
    unfold mX12_readLimit_b12
    rw [passes_bad w2, obind, number_bad w2, b2s, isSign_bad w2.ne, obind, must_bad w2, obind, gMI, obind, if_neg w2.ne]
    exact Or.inr ⟨3, _, I1, _, M, rfl, rfl, ⟨c1, w2, w3.1, T, h.2.2.2.2.1.mf w3, fun _ _ _ => rfl⟩, fun x hx _ => d1 x hx⟩
end Limit
