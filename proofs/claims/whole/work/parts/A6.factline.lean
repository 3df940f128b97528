section FactLine2
variable {σ τ : Sg} {I I' J J' I1 I2 I3 Ja : Nat → Nat → Int32} {L L' M M' L1 L2 : Nat → Nat → Int64} {X : Nat → Nat} {n m i la off t1 t2 fl pl dp h0 N kk lim : Nat} {W : Nat → List Nat} {T T' : Nat → Nat}
theorem MFr.u437 (r : Nat → Int64) : MFr J M J (rowUp M 437 r) := ⟨fun x a b c d => ⟨rfl, rowUp_ne _ _ c⟩, fun _ _ _ => rfl, fun k _ => by rw [rowUp_ne _ _ (by omega)], rowUp_ne _ _ (by omega), rfl⟩
theorem b38_bad (h : MFl J fl pl) (a b : Int32) : mX12_readFact_b38 433 a b (hk τ J M) = some (hk τ J M) := by
  unfold mX12_readFact_b38
  rw [isSign_bad h.ne, obind, must_bad h, obind, gMI, obind, if_neg h.ne]
/-- a line that tells a FACT -/
theorem factLine_ok (hW : W 13 = []) (hla : isLa la) (hg : gpl σ = la) (h : PE I J M X n m i la 0 W t1 t2 T dp) (hc0 : ck X n (pz X n i) ≠ 0) (hc1 : ck X n (pz X n i) ≠ 1) :
    (∃ o l I' J' M' i', t1 < 8 ∧ 1 ≤ o ∧ o ≤ 9 ∧ mX2_readFact 282 (hk σ I L) = some (1, hk σ I' L) ∧ mX12_readFact 433 (hk τ J M) = some (hk τ J' M') ∧ i < i' ∧ PE I' J' M' X n m i' la 0 (updA W t1 l) (t1 + 1) t2 (updA (updA T (8 + t1) o) 1 (t1 + 1)) dp ∧
      I' (la + 1) = updA (I (la + 1)) t1 (nI o) ∧ (∀ x, x ≠ 282 → x ≠ la → x ≠ la + 1 → x ≠ la + 2 → I' x = I x) ∧ (∀ k, k ≠ 1 → I' la k = I la k) ∧ MFr J M J' M' ∧ J' 433 22 = J 433 22) ∨
    (∃ fl pl I' J' M', mX2_readFact 282 (hk σ I L) = some (0, hk σ I' L) ∧ mX12_readFact 433 (hk τ J M) = some (hk τ J' M') ∧ LN I J M T fl pl I' J' M' ∧ (∀ x, x ≠ 282 → x ≠ la → x ≠ la + 1 → x ≠ la + 2 → I' x = I x)) := by
  have hgt := la_gt hla
  obtain ⟨c8, c5, c1, c2, cf, cn⟩ := id h.2.2.1
  obtain ⟨m8, m5, m1, m2, mf, mn⟩ := id h.2.2.2.1
  have m2 := m2 hW
  have mn := mn hW
  have l1 : ldI 435 (1 : Int32) (hk τ J M) = some (nI t1) := by rw [show (1 : Int32) = nI 1 from rfl, ldI_ok (n := 640) rfl (by omega) (by omega), hpI_hk, m1]
  obtain ⟨rmA, rmB⟩ := room_ok (τ := τ) h.2.1 hc1 (a := t1) (b := 8) (by omega) (by omega)
  unfold mX2_readFact mX12_readFact
  rw [if_pos s282, if_pos s433, gDr, hg, gI_la hla, obind, c1, gM 1, RF_433_1, l1, obind]
  -- once wrong, the rest of the line
  have rest : ∀ {J' : Nat → Nat → Int32} {M' : Nat → Nat → Int64} {fl pl : Nat}, MFl J' fl pl → ((gI 12 14 433 (hk τ J' M')).bind fun v7 => if v7 = (3 : Int32) then b2 (mX12_number 433 (1 : Int32) (9 : Int32) (hk τ J' M')) (fun v18 h19 => mX12_readFact_b38 433 (nI t1) v18 h19) else mX12_readFact_b38 433 (nI t1) (5 : Int32) (hk τ J' M')) = some (hk τ J' M') := by
    intro J' M' fl pl b
    rw [gMI, obind, number_bad b, b2s, b38_bad b, b38_bad b]
    by_cases q : J' 433 14 = 3
    · rw [if_pos q]
    · rw [if_neg q]
  by_cases q8 : t1 = 8
  · obtain ⟨J1, e1, b1, f1⟩ := rmB q8
    have e1 : mX12_room 433 (nI t1) (8 : Int32) (hk τ J M) = some (hk τ J1 M) := e1
    obtain ⟨I1, e2, b2', f2⟩ := fail_b2 (σ := σ) (L := L) h.1 (f := 4) (by omega) (by omega)
    have e2 : (b2 (mX2_fail 282 (4 : Int32) (hk σ I L)) fun v30 h31 => (z01 v30).bind fun v => some (v, h31)) = some (0, hk σ I1 L) := e2
    rw [if_neg (show ¬ nI t1 < (8 : Int32) from nI_nlt (b := 8) (by omega) (by omega)), e2, e1, obind, newName_bad b1 (by rw [f1.2.1]; exact m1) m8 (by rw [f1.2.1]; exact m2) m5, obind, rest b1]
    exact Or.inr ⟨4, _, I1, J1, M, rfl, rfl, ⟨b2', b1, f1.1, T, h.2.2.2.2.1.mf f1, fun _ _ _ => rfl⟩, fun x a _ _ _ => f2 x a⟩
  · obtain ⟨u, w, e1, y2, y3⟩ := rmA q8
    have e1 : mX12_room 433 (nI t1) (8 : Int32) (hk τ J M) = some (hk τ (rowUp J 433 u) (rowUp M 433 w)) := e1
    have p1 := h.nx hla hc0 y2 y3
    rw [if_pos (show nI t1 < (8 : Int32) from nI_lt (b := 8) (by omega) (by omega)), gPI, obind, h.1.2.2.2.2.2.1, sI_ok s282, obind, setI_hk, hpI_hk', nI_1, e1, obind]
    rcases name_ok (σ := σ) (τ := τ) hW (L := L) p1.1 p1.2.1 (by rw [hg]; exact hla) (by rw [hg]; exact p1.2.2.1) p1.2.2.2.1 (s := t1) (by omega) with ⟨l, hl, _, ⟨I2, a1, a2, a3, a4⟩, J2, M2, b1, b2', b3⟩ | ⟨fl, ⟨I2, a1, a2, a3⟩, J2, b1, b2', b3⟩
    · have hM2 : M2 437 = updA ((rowUp M 433 w) 437) t1 (lN (pk27 l)) := by rw [b3.2.2.1, rowUp_same]
      have hM0 : (rowUp M 433 w) 437 = M 437 := rowUp_ne _ _ (by omega)
      have p2 : PE I2 J2 M2 X n m (i + 1 + 1) la 0 W t1 t2 T dp := by
        refine ⟨a2, b2', p1.2.2.1.cf hla a3, ⟨m8, m5, by rw [b3.2.1]; exact p1.2.2.2.1.2.2.1, by rw [b3.2.1]; exact p1.2.2.2.1.2.2.2.1, fun f hf => ?_, fun _ k hk' => ?_⟩, fun j hj => by rw [b3.2.1]; exact p1.2.2.2.2.1 j hj, p1.2.2.2.2.2.1.cf hla a3, by have := p1.2.2.2.2.2.2.1; omega, by rw [b3.2.2.2.1]; exact p1.2.2.2.2.2.2.2⟩
        · rw [hM2, updA_ne _ _ (by omega), hM0]; exact mf f hf
        · rw [hM2, updA_ne _ _ (by omega), hM0]; exact mn k hk'
      have hMt : M2 437 t1 = lN (pk27 l) := by rw [hM2, updA_same]
      have fr2 : MFr J M J2 M2 := (y3.1.tr (MFr.u437 _)).tr b3.1
      have f22 : J2 433 22 = J 433 22 := by rw [b3.2.2.2.2, y3.2.2.2.2]
      have ia : ∀ x, x ≠ 282 → I2 x = I x := fun x hx => by rw [a3 x hx, rowUp_ne _ _ hx]
      obtain ⟨k3, k100⟩ := mtk3 X n (pz X n (i + 1 + 1))
      have hlt := ck_lt X n (pz X n (i + 1 + 1))
      rw [a1, b2s, if_neg (show ¬ (1 : Int32) = 0 by decide), gPI, obind, a4, nextKind_ok p2.1, obind, b1, obind, gMI, obind, p2.2.1.2.1.2.2.1, show (3 : Int32) = nI 3 from rfl, ckd (by omega), c_eqd (by omega) (by omega)]
      by_cases q3 : ck X n (pz X n (i + 1 + 1)) = 3
      · rw [if_pos q3, if_pos (k3.mpr q3)]
        rcases num_ok (σ := σ) (τ := τ) (L := L) p2.1 p2.2.1 (lo := 1) (hi := 9) (by omega) (by omega) with ⟨v, hv1, hv2, ⟨I3, d1, d2, d3, d4⟩, J3, M3, g1, g2, g3⟩ | ⟨fl, pl, ⟨I3, d1, d2, d3⟩, v, J3, M3, g1, g2, g3⟩
        · have d1 : mX2_number 282 (1 : Int32) (9 : Int32) (hk σ I2 L) = some (1, hk σ I3 L) := d1
          have g1 : mX12_number 433 (1 : Int32) (9 : Int32) (hk τ J2 M2) = some (nI v, hk τ J3 M3) := g1
          have p3 := p2.go hla d2 d3 g2 g3
          rw [d1, b2s, if_neg (show ¬ (1 : Int32) = 0 by decide), gPI, obind, d4, g1, b2s]
          rcases factEnd_ok (σ := σ) (τ := τ) (L := L) hW hla hg p3 (by omega) hl (by rw [g3.2.2.1, hMt]) v with ⟨I4, J4, M4, z1, z2, z3, z4, z5, z6, z7, z8⟩ | ⟨fl, pl, I4, J4, M4, z1, z2, ⟨z3, z4, z5, z6⟩, z7⟩
          · exact Or.inl ⟨v, l, I4, J4, M4, _, by omega, hv1, hv2, z1, z2, by omega, z3, by rw [z4, d3 (la + 1) (by omega), ia (la + 1) (by omega)], fun x a b c d => by rw [z5 x a b c d, d3 x a, ia x a], fun k hk' => by rw [z6 k hk', d3 la (by omega), ia la (by omega)], fr2.tr (g3.1.tr z7), by rw [z8, g3.2.2.2.2, f22]⟩
          · exact Or.inr ⟨fl, pl, I4, J4, M4, z1, z2, ⟨z3, z4, fr2.tr (g3.1.tr z5), z6⟩, fun x a b c d => by rw [z7 x a b c d, d3 x a, ia x a]⟩
        · have d1 : mX2_number 282 (1 : Int32) (9 : Int32) (hk σ I2 L) = some (0, hk σ I3 L) := d1
          have g1 : mX12_number 433 (1 : Int32) (9 : Int32) (hk τ J2 M2) = some (v, hk τ J3 M3) := g1
          rw [d1, b2s, if_pos rfl, g1, b2s, b38_bad g2]
          exact Or.inr ⟨fl, pl, I3, J3, M3, rfl, rfl, ⟨d2, g2, fr2.tr g3.1, T, p2.2.2.2.2.1.mf g3, fun _ _ _ => rfl⟩, fun x a _ _ _ => by rw [d3 x a, ia x a]⟩
      · rw [if_neg q3, if_neg (fun z => q3 (k3.mp z))]
        rcases factEnd_ok (σ := σ) (τ := τ) (L := L) hW hla hg p2 (by omega) hl hMt 5 with ⟨I4, J4, M4, z1, z2, z3, z4, z5, z6, z7, z8⟩ | ⟨fl, pl, I4, J4, M4, z1, z2, ⟨z3, z4, z5, z6⟩, z7⟩
        · exact Or.inl ⟨5, l, I4, J4, M4, _, by omega, by omega, by omega, z1, z2, by omega, z3, by rw [z4, ia (la + 1) (by omega)], fun x a b c d => by rw [z5 x a b c d, ia x a], fun k hk' => by rw [z6 k hk', ia la (by omega)], fr2.tr z7, by rw [z8, f22]⟩
        · exact Or.inr ⟨fl, pl, I4, J4, M4, z1, z2, ⟨z3, z4, fr2.tr z5, z6⟩, fun x a b c d => by rw [z7 x a b c d, ia x a]⟩
    · rw [a1, b2s, if_pos rfl, b1, obind, rest b2']
      exact Or.inr ⟨fl, _, I2, J2, _, rfl, rfl, ⟨a2, b2', y3.1.tr b3.1, T, p1.2.2.2.2.1.mf b3, fun _ _ _ => rfl⟩, fun x a _ _ _ => by rw [a3 x a, rowUp_ne _ _ a]⟩
end FactLine2
