section PleaLine
variable {σ τ : Sg} {I I' J J' I1 I2 I3 Ja : Nat → Nat → Int32} {L L' M M' L1 L2 : Nat → Nat → Int64} {X : Nat → Nat} {n m i la off t1 t2 fl pl dp h0 N kk lim s : Nat} {W : Nat → List Nat} {T T' : Nat → Nat}
theorem pleaEnd_bad (h : MFl J fl pl) {a b : Int32} : ((mX12_isSign 433 (59 : Int32) (hk τ J M)).bind fun v9 => (mX12_must 433 v9 (hk τ J M)).bind fun h12 => (gI 12 17 433 h12).bind fun v13 => if v13 = 0 then ((gR 12 1 433 h12).bind fun v14 => (gR 12 1 433 h12).bind fun v15 => (ldI v15 (4 : Int32) h12).bind fun v16 => (stI v14 ((66 : Int32) + v16) a h12).bind fun h17 => (gR 12 1 433 h17).bind fun v18 => (gR 12 1 433 h17).bind fun v19 => (ldI v19 (4 : Int32) h17).bind fun v20 => (stI v18 ((72 : Int32) + v20) b h17).bind fun h21 => (gR 12 1 433 h21).bind fun v22 => (ldI v22 (4 : Int32) h21).bind fun v23 => (stI v22 (4 : Int32) (v23 + (1 : Int32)) h21).bind fun h24 => some h24) else (some h12)) = some (hk τ J M) := by
  rw [isSign_bad h.ne, obind, must_bad h, obind, gMI, obind, if_neg h.ne]
/-- a line that tells a PLEA -/
theorem pleaLine_ok (hW : W 13 = []) (hla : isLa la) (hg : gpl σ = la) (h : PE I J M X n m i la 0 W t1 t2 T dp) (hc0 : ck X n (pz X n i) ≠ 0) (hc1 : ck X n (pz X n i) ≠ 1) (h4 : I la 4 = nI (T 4)) (h46 : T 4 ≤ 6) (h6 : T 6 ≤ 32) :
    (∃ k I' J' M' i' T', T 4 < 6 ∧ k < t2 ∧ mX2_readPlea 282 (hk σ I L) = some (1, hk σ I' L) ∧ mX12_readPlea 433 (hk τ J M) = some (hk τ J' M') ∧ i < i' ∧ PE I' J' M' X n m i' la 0 W t1 t2 T' 0 ∧ T' 6 = T 6 + 1 ∧ T' (84 + T 6) = T 7 ∧ T' (117 + T 6) = T' 7 ∧ T' 4 = T 4 + 1 ∧ T' (66 + T 4) = k ∧ T' (72 + T 4) = T 6 ∧
      (∀ j, j ≠ 7 → j ≠ 6 → j ≠ 4 → j ≠ 66 + T 4 → j ≠ 72 + T 4 → j ≠ 84 + T 6 → j ≠ 117 + T 6 → j < 150 + T 7 → T' j = T j) ∧ RG t1 (cT T') (T 7) (T' 7) 0 1 ∧ I' (la + 4) = updA (I (la + 4)) (T 4) (nI k) ∧ I' (la + 8) = updA (I (la + 8)) (20 + T 4) (nI (T 7)) ∧ I' (la + 9) = updA (I (la + 9)) (20 + T 4) (nI (T' 7)) ∧ I' la 4 = nI (T 4 + 1) ∧
      (∀ x, x ≠ 282 → x ≠ la → x ≠ la + 4 → x ≠ la + 7 → x ≠ la + 8 → x ≠ la + 9 → I' x = I x) ∧ (∀ k, k ≠ 13 → k ≠ 4 → I' la k = I la k) ∧ MX J M J' M') ∨
    (∃ fl pl I' J' M', mX2_readPlea 282 (hk σ I L) = some (0, hk σ I' L) ∧ mX12_readPlea 433 (hk τ J M) = some (hk τ J' M') ∧ CFl I' fl pl ∧ MFl J' fl pl ∧ MFr J M J' M' ∧ (∀ x, x ≠ 282 → x ≠ la → x ≠ la + 4 → x ≠ la + 7 → x ≠ la + 8 → x ≠ la + 9 → I' x = I x)) := by
  have hgt := la_gt hla
  have sh : SH (gN σ) (la + 4) = (50, 6) ∧ RF σ la 9 = la + 4 := by rcases hla with rfl | rfl <;> exact ⟨rfl, rfl⟩
  obtain ⟨m8, m5, m1, m2, mf, mn⟩ := id h.2.2.2.1
  have m2 := m2 hW
  obtain ⟨rmA, rmB⟩ := room_ok (τ := τ) h.2.1 hc1 (a := T 4) (b := 6) (by omega) (by omega)
  unfold mX2_readPlea mX12_readPlea
  rw [if_pos s282, if_pos s433, gDr, hg, gI_la hla, obind, h4, gM 1, RF_433_1, show (4 : Int32) = nI 4 from rfl, ld435 h.2.2.2.2.1 (by omega), obind]
  by_cases q6 : T 4 = 6
  · obtain ⟨J1, e1, b1, f1⟩ := rmB q6
    have e1 : mX12_room 433 (nI (T 4)) (6 : Int32) (hk τ J M) = some (hk τ J1 M) := e1
    obtain ⟨I1, e2, b2', f2⟩ := fail_b2 (σ := σ) (L := L) h.1 (f := 4) (by omega) (by omega)
    obtain ⟨J2, T2, e3, b3, g3, _⟩ := expr_bad (τ := τ) (M := M) b1 (h.2.2.2.2.1.mf f1) h6
    rw [if_neg (show ¬ nI (T 4) < (6 : Int32) from nI_nlt (b := 6) (by omega) (by omega)), e2, e1, obind, known_bad b1 (by rw [f1.2.1]; exact m1) m8 (by rw [f1.2.1]; exact m2) m5, b2s, e3, b2s]
    exact Or.inr ⟨4, _, I1, J2, M, rfl, pleaEnd_bad b3, b2', b3, f1.1.tr g3.1, fun x a _ _ _ _ _ => f2 x a⟩
  · obtain ⟨u, w, e1, y2, y3⟩ := rmA q6
    have e1 : mX12_room 433 (nI (T 4)) (6 : Int32) (hk τ J M) = some (hk τ (rowUp J 433 u) (rowUp M 433 w)) := e1
    have p1 := h.nx hla hc0 y2 y3
    rw [if_pos (show nI (T 4) < (6 : Int32) from nI_lt (b := 6) (by omega) (by omega)), gPI, obind, h.1.2.2.2.2.2.1, sI_ok s282, obind, setI_hk, hpI_hk', nI_1, e1, obind]
    rcases count_ok (σ := σ) (τ := τ) (L := L) hW p1.1 p1.2.1 (by rw [hg]; exact hla) (by rw [hg]; exact p1.2.2.1) p1.2.2.2.1 with ⟨k, hk', _, ⟨I2, a1, a2, a3, a4⟩, b0⟩ | ⟨fl, ⟨I2, a1, a2, a3⟩, J2, b1, b2', b3⟩
    · obtain ⟨J2, M2, b1, b2', b3⟩ := known_of (τ := τ) p1.2.1 b0
      have p2 := p1.go hla a2 a3 b2' b3
      have ia : ∀ x, x ≠ 282 → I2 x = I x := fun x hx => by rw [a3 x hx, rowUp_ne _ _ hx]
      have p3 := p2.irow (x := la + 4) (updA (I2 (la + 4)) (T 4) (nI k)) (by omega) (by omega) (by omega) (by omega) (by omega)
      rw [a1, b2s, if_neg (show ¬ (1 : Int32) = 0 by decide), gDr, hg, gR_la hla, obind, sh.2, gDr, hg, gI_la hla, obind, ia la (by omega), h4, gPI, obind, a4, put_nI (n := 6) (by rw [hpS_hk]; exact sh.1) (by omega) (by omega), obind, setI_hk, hpI_hk', gDr, hg, gI_la hla, obind, rowUp_ne (a := la + 4) (b := la) _ _ (by omega), ia la (by omega), h4, show (20 : Int32) = nI 20 from rfl, nI_add, b1, b2s]
      rcases into_ok (σ := σ) (τ := τ) (L := L) hla hg p3 h6 (s := 20 + T 4) (by omega) with ⟨I3, J3, M3, i3, T3, c1, c2, p4, l2, l3, a6, a84, a117, a2', r2, x8, x9, f2, g2, k2⟩ | ⟨fl, pl, I3, J3, M3, c1, c2, ⟨c3, c4, c5, c6⟩, f2, g2⟩
      · have t34 : T3 4 = T 4 := a2' 4 (by omega) (by omega) (by omega) (by omega) (by omega)
        have z4 : I3 la 4 = nI (T 4) := by rw [g2 4 (by omega), rowUp_ne _ _ (by omega), ia la (by omega), h4]
        rw [c1, b2s, if_neg (show ¬ (1 : Int32) = 0 by decide), gDr, hg, gI_la hla, obind, z4, nI_1, sI_la hla, obind, c2, b2s]
        have r2' := p4.1.row (x := la) (updA (I3 la) 4 (nI (T 4 + 1))) hgt.1 (by omega)
        have p5 : PE (rowUp I3 la (updA (I3 la) 4 (nI (T 4 + 1)))) J3 M3 X n m i3 la 0 W t1 t2 T3 0 := ⟨r2', p4.2.1, CN.fld p4.2.2.1 hla _ (by omega) (by omega), p4.2.2.2.1, p4.2.2.2.2.1, CK.fld p4.2.2.2.2.2.1 _ (by omega), p4.2.2.2.2.2.2.1, p4.2.2.2.2.2.2.2⟩
        rw [show (59 : Int32) = nI 59 from rfl, isSign_ok p5.2.1.2.1 p5.2.1.2.2 (by decide), obind]
        rcases exp_ok (σ := σ) (τ := τ) (L := L) p5.1 p5.2.1 (c := 59) (by omega) (by omega) with ⟨_, ⟨I4, x1, x2, x3, x4⟩, J4, M4, z1, z2, z3⟩ | ⟨_, fl, pl, ⟨I4, x1, x2, x3⟩, J4, M4, z1, z2, z3⟩
        · have p6 := p5.go hla x2 x3 z2 z3
          have q1 := p6.set (k := 66 + T 4) k (by omega) (by omega) (by omega) (by omega)
          have q2 := q1.set (k := 72 + T 4) (T 6) (by omega) (by omega) (by omega) (by omega)
          have q3 := q2.set (k := 4) (T 4 + 1) (by omega) (by omega) (by omega) (by omega)
          have v1 : updA T3 (66 + T 4) k 4 = T 4 := by rw [updA_ne _ _ (by omega), t34]
          have v2 : updA (updA T3 (66 + T 4) k) (72 + T 4) (T 6) 4 = T 4 := by rw [updA_ne _ _ (by omega), v1]
          have rge := r2.1.1
          refine Or.inl ⟨k, I4, _, M4, i3 + 1, updA (updA (updA T3 (66 + T 4) k) (72 + T 4) (T 6)) 4 (T 4 + 1), by omega, hk', by rw [x1, b2s]; rfl, ?_, by omega, q3, ?_, ?_, ?_, updA_same _ _ _, ?_, ?_, fun j j7 j6 j4 j66 j72 j84 j117 hj => ?_, ?_, ?_, ?_, ?_, ?_, fun x a b c d e f => ?_, fun k2 k13 k4 => ?_, (y3.x.tr (b3.x.tr (k2.tr z3.x))).tr ((MX.u435 _).tr ((MX.u435 _).tr (MX.u435 _)))⟩
          · rw [z1, obind, gMI, obind, if_pos p6.2.1.2.2, gM 1, RF_433_1, gM 1, RF_433_1, ld435 p6.2.2.2.2.1 (by omega), obind, t34, show (66 : Int32) = nI 66 from rfl, nI_add, st435 _ (by omega), obind, gM 1, RF_433_1, gM 1, RF_433_1, ld435 q1.2.2.2.2.1 (by omega), obind, v1, show (72 : Int32) = nI 72 from rfl, nI_add, st435 _ (by omega), obind, gM 1, RF_433_1, ld435 q2.2.2.2.2.1 (by omega), obind, v2, nI_1, st435 _ (by omega), obind]
          · rw [updA_ne _ _ (by omega), updA_ne _ _ (by omega), updA_ne _ _ (by omega), a6]
          · rw [updA_ne _ _ (by omega), updA_ne _ _ (by omega), updA_ne _ _ (by omega), a84]
          · rw [updA_ne _ _ (by omega), updA_ne _ _ (by omega), updA_ne _ _ (by omega), a117, updA_ne _ _ (by omega), updA_ne _ _ (by omega), updA_ne _ _ (by omega)]
          · rw [updA_ne _ _ (by omega), updA_ne _ _ (by omega), updA_same]
          · rw [updA_ne _ _ (by omega), updA_same]
          · rw [updA_ne _ _ j4, updA_ne _ _ j72, updA_ne _ _ j66, a2' j j7 j6 j84 j117 hj]
          · rw [updA_ne _ _ (by omega), updA_ne _ _ (by omega), updA_ne _ _ (by omega)]
            exact r2.cg (fun s _ _ => by show updA (updA (updA T3 _ _) _ _) 4 _ (150 + s) = T3 (150 + s); rw [updA_ne _ _ (by omega), updA_ne _ _ (by omega), updA_ne _ _ (by omega)])
          · rw [x3 _ (by omega), rowUp_ne _ _ (by omega), f2 _ (by omega) (by omega) (by omega) (by omega) (by omega), rowUp_same, ia _ (by omega)]
          · rw [x3 _ (by omega), rowUp_ne _ _ (by omega), x8, rowUp_ne _ _ (by omega), ia _ (by omega)]
          · rw [x3 _ (by omega), rowUp_ne _ _ (by omega), x9, rowUp_ne _ _ (by omega), ia _ (by omega), updA_ne _ _ (by omega), updA_ne _ _ (by omega), updA_ne _ _ (by omega)]
          · rw [x3 _ (by omega), rowUp_same, updA_same]
          · rw [x3 x a, rowUp_ne _ _ b, f2 x a b d e f, rowUp_ne _ _ c, ia x a]
          · rw [x3 _ (by omega), rowUp_same, updA_ne _ _ k4, g2 k2 k13, rowUp_ne _ _ (by omega), ia _ (by omega)]
        · refine Or.inr ⟨fl, pl, I4, J4, M4, by rw [x1, b2s]; rfl, ?_, x2, z2, y3.1.tr (b3.1.tr (k2.1.tr z3.1)), fun x a b c d e f => by rw [x3 x a, rowUp_ne _ _ b, f2 x a b d e f, rowUp_ne _ _ c, ia x a]⟩
          rw [z1, obind, gMI, obind, if_neg z2.ne]
      · rw [c1, b2s, if_pos rfl, c2, b2s]
        exact Or.inr ⟨fl, pl, I3, J3, M3, rfl, pleaEnd_bad c4, c3, c4, y3.1.tr (b3.1.tr c5), fun x a b c d e f => by rw [f2 x a b d e f, rowUp_ne _ _ c, ia x a]⟩
    · obtain ⟨J3, T3, e3, c3, g3, _⟩ := expr_bad (τ := τ) (M := rowUp M 433 w) b2' (p1.2.2.2.2.1.mf b3) h6
      rw [a1, b2s, if_pos rfl, known_no b2' b1, b2s, e3, b2s]
      exact Or.inr ⟨fl, _, I2, J3, _, rfl, pleaEnd_bad c3, a2, c3, y3.1.tr (b3.1.tr g3.1), fun x a _ _ _ _ _ => by rw [a3 x a, rowUp_ne _ _ a]⟩
end PleaLine
