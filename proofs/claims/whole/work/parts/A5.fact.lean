section FactLine
variable {σ τ : Sg} {I I' J J' I1 I2 I3 Ja : Nat → Nat → Int32} {L L' M M' L1 L2 : Nat → Nat → Int64} {X : Nat → Nat} {n m i la off t1 t2 fl pl dp h0 N kk lim : Nat} {W : Nat → List Nat} {T T' : Nat → Nat}
theorem room_ok (h : PMk J M X n i) (hc1 : ck X n (pz X n i) ≠ 1) {a b : Nat} (ha : a < 1000) (hb : b < 1000) :
    (a ≠ b → ∃ u w, mX12_room 433 (nI a) (nI b) (hk τ J M) = some (hk τ (rowUp J 433 u) (rowUp M 433 w)) ∧ PMk (rowUp J 433 u) (rowUp M 433 w) X n (i + 1) ∧ MF2 J M (rowUp J 433 u) (rowUp M 433 w)) ∧
    (a = b → ∃ J', mX12_room 433 (nI a) (nI b) (hk τ J M) = some (hk τ J' M) ∧ MFl J' 4 (pz X n i) ∧ MF2 J M J' M) := by
  constructor
  · intro hab
    obtain ⟨u, w, e, r⟩ := PMk.ps (σ := τ) h
    refine ⟨u, w, ?_, r⟩
    unfold mX12_room mX12_room_b10
    rw [if_pos s433, c_eqd (by omega) (by omega), if_neg hab, e, obind]
  · intro hab
    obtain ⟨u, e, r1, r2⟩ := wrong_ok (σ := τ) h (f := 4) (by omega) (by omega)
    have e : mX12_wrong 433 (4 : Int32) (hk τ J M) = some (hk τ (rowUp J 433 u) M) := e
    rw [if_neg hc1] at r1
    refine ⟨_, ?_, r1, r2⟩
    unfold mX12_room mX12_room_b10
    rw [if_pos s433, hab, if_pos rfl, e, obind, passes_bad r1, obind]
/-- the end of a FACT line -/
theorem factEnd_ok (hW : W 13 = []) (hla : isLa la) (hg : gpl σ = la) (h : PE I J M X n m i la 0 W t1 t2 T dp) (ht : t1 < 8) {l : List Nat} (hl : wrd l) (hM : M 437 t1 = lN (pk27 l)) (o : Nat) :
    (∃ I' J' M', mX2_readFact_b69 282 (nI (pk5 l)) (nI o) (hk σ I L) = some (1, hk σ I' L) ∧ mX12_readFact_b38 433 (nI t1) (nI o) (hk τ J M) = some (hk τ J' M') ∧ PE I' J' M' X n m (i + 1) la 0 (updA W t1 l) (t1 + 1) t2 (updA (updA T (8 + t1) o) 1 (t1 + 1)) dp ∧
      I' (la + 1) = updA (I (la + 1)) t1 (nI o) ∧ (∀ x, x ≠ 282 → x ≠ la → x ≠ la + 1 → x ≠ la + 2 → I' x = I x) ∧ (∀ k, k ≠ 1 → I' la k = I la k) ∧ MFr J M J' M' ∧ J' 433 22 = J 433 22) ∨
    (∃ fl pl I' J' M', mX2_readFact_b69 282 (nI (pk5 l)) (nI o) (hk σ I L) = some (0, hk σ I' L) ∧ mX12_readFact_b38 433 (nI t1) (nI o) (hk τ J M) = some (hk τ J' M') ∧ LN I J M T fl pl I' J' M' ∧ (∀ x, x ≠ 282 → x ≠ la → x ≠ la + 1 → x ≠ la + 2 → I' x = I x)) := by
  have hgt := la_gt hla
  have sh : SH (gN σ) (la + 1) = (50, 8) ∧ SH (gN σ) (la + 2) = (50, 13) ∧ RF σ la 6 = la + 1 := by rcases hla with rfl | rfl <;> exact ⟨rfl, rfl, rfl⟩
  obtain ⟨c8, c5, c1, c2, cf, cn⟩ := id h.2.2.1
  obtain ⟨m8, m5, m1, m2, mf, mn⟩ := id h.2.2.2.1
  have c2 := c2 hW
  have cn := cn hW
  have m2 := m2 hW
  have mn := mn hW
  obtain ⟨I3, hI3⟩ : ∃ I3, I3 = rowUp (rowUp (rowUp I (la + 2) (updA (I (la + 2)) t1 (nI (pk5 l)))) (la + 1) (updA (I (la + 1)) t1 (nI o))) la (updA (I la) 1 (nI (t1 + 1))) := ⟨_, rfl⟩
  have i0 : I3 la = updA (I la) 1 (nI (t1 + 1)) := by rw [hI3, rowUp_same]
  have i1 : I3 (la + 1) = updA (I (la + 1)) t1 (nI o) := by rw [hI3, rowUp_ne _ _ (by omega), rowUp_same]
  have i2 : I3 (la + 2) = updA (I (la + 2)) t1 (nI (pk5 l)) := by rw [hI3, rowUp_ne _ _ (by omega), rowUp_ne _ _ (by omega), rowUp_same]
  have ix : ∀ x, x ≠ la → x ≠ la + 1 → x ≠ la + 2 → I3 x = I x := fun x a b c => by rw [hI3, rowUp_ne _ _ a, rowUp_ne _ _ b, rowUp_ne _ _ c]
  have pc : PCk I3 X n m i := by rw [hI3]; exact ((h.1.row _ (by omega) (by omega)).row _ (by omega) (by omega)).row _ (by omega) (by omega)
  have cls : mX2_readFact_b69 282 (nI (pk5 l)) (nI o) (hk σ I L) = b2 (mX2_expect 282 (59 : Int32) (hk σ I3 L)) fun v25 h26 => (z01 v25).bind fun v => some (v, h26) := by
    unfold mX2_readFact_b69
    rw [gDr, hg, gR_la hla, obind, RF_la_7 σ hla, gDr, hg, gI_la hla, obind, c1, put_nI (n := 13) (by rw [hpS_hk]; exact sh.2.1) (by omega) (by omega), obind, setI_hk, hpI_hk', gDr, hg, gR_la hla, obind, sh.2.2, gDr, hg, gI_la hla, obind, rowUp_ne _ _ (by omega), c1, put_nI (n := 8) (by rw [hpS_hk]; exact sh.1) (by omega) ht, obind, setI_hk, hpI_hk', rowUp_ne _ _ (by omega), gDr, hg, gI_la hla, obind, rowUp_ne _ _ (by omega), rowUp_ne _ _ (by omega), c1, nI_1, sI_la hla, obind, rowUp_ne (a := la + 1) (b := la) _ _ (by omega), rowUp_ne (a := la + 2) (b := la) _ _ (by omega), ← hI3]
  unfold mX12_readFact_b38
  rw [cls, show (59 : Int32) = nI 59 from rfl, isSign_ok h.2.1.2.1 h.2.1.2.2 (by decide), obind]
  rcases exp_ok (σ := σ) (τ := τ) (L := L) pc h.2.1 (c := 59) (by omega) (by omega) with ⟨_, ⟨I4, x1, x2, x3, x4⟩, J2, M2, z1, z2, z3⟩ | ⟨_, fl, pl, ⟨I4, x1, x2, x3⟩, J2, M2, z1, z2, z3⟩
  · have l435 : rTd J2 T := h.2.2.2.2.1.mf z3
    have tA := l435.set (8 + t1) o
    have tB := tA.set 1 (t1 + 1)
    have j1 : J2 435 1 = nI t1 := by rw [z3.2.1]; exact m1
    have pk := z2.up435 (updA (J2 435) (8 + t1) (nI o))
    have pk2 := pk.up435 (updA ((rowUp J2 435 (updA (J2 435) (8 + t1) (nI o))) 435) 1 (nI (t1 + 1)))
    refine Or.inl ⟨I4, _, M2, by rw [x1, b2s]; rfl, ?_, ⟨x2, pk2, ⟨by omega, c5, ?_, fun _ => ?_, fun f hf => ?_, fun _ k hk' => ?_⟩, ⟨by omega, m5, ?_, fun _ => ?_, fun f hf => ?_, fun _ k hk' => ?_⟩, tB, ⟨?_, fun j hj => ?_⟩, ?_, ?_⟩, ?_, fun x a b c d => ?_, fun k hk' => ?_, ?_, ?_⟩
    · rw [z1, obind, gMI, obind, if_pos z2.2.2, gM 1, RF_433_1, show (8 : Int32) = nI 8 from rfl, nI_add, st435 _ (by omega), obind, gM 1, RF_433_1, show (1 : Int32) = nI 1 from rfl, ldI_ok (n := 640) rfl (by omega) (by omega), obind, hpI_hk, rowUp_same, updA_ne _ _ (by omega), j1, nI_add, st435 _ (by omega), obind, rowUp_same]
    · rw [x3 la (by omega), i0, updA_same]
    · rw [x3 la (by omega), i0, updA_ne _ _ (by omega)]; exact c2
    · rw [x3 (la + 2) (by omega), i2, updA_at, updA_at]
      by_cases e : f = t1
      · rw [if_pos e, if_pos e]; exact ⟨hl, rfl⟩
      · rw [if_neg e, if_neg e]; exact cf f (by omega)
    · rw [x3 (la + 2) (by omega), i2, updA_ne _ _ (by omega), updA_ne _ _ (by omega)]; exact cn k hk'
    · rw [rowUp_same, updA_same]
    · rw [rowUp_same, updA_ne _ _ (by omega), rowUp_same, updA_ne _ _ (by omega), z3.2.1]; exact m2
    · rw [z3.2.2.1, updA_at]
      by_cases e : f = t1
      · rw [if_pos e, e]; exact ⟨hl, hM⟩
      · rw [if_neg e]; exact mf f (by omega)
    · rw [z3.2.2.1, updA_ne _ _ (by omega)]; exact mn k hk'
    · rw [x3 la (by omega), i0, updA_ne _ _ (by omega), updA_ne _ _ (by omega), updA_ne _ _ (by omega)]; exact h.2.2.2.2.2.1.1
    · rw [updA_ne _ _ (by omega), updA_ne _ _ (by omega)] at hj
      have e : cT (updA (updA T (8 + t1) o) 1 (t1 + 1)) j = cT T j := by unfold cT; rw [updA_ne _ _ (by omega), updA_ne _ _ (by omega)]
      rw [x3 (la + 7) (by omega), ix (la + 7) (by omega) (by omega) (by omega), e]
      exact h.2.2.2.2.2.1.2 j hj
    · rw [updA_ne _ _ (by omega), updA_ne _ _ (by omega)]; have := h.2.2.2.2.2.2.1; omega
    · rw [rowUp_ne _ _ (by omega), rowUp_ne _ _ (by omega), z3.2.2.2.1]; exact h.2.2.2.2.2.2.2
    · rw [x3 (la + 1) (by omega), i1]
    · rw [x3 x a, ix x b c d]
    · rw [x3 la (by omega), i0, updA_ne _ _ hk']
    · exact z3.1.tr ((MX.u435 _).1.tr (MX.u435 _).1)
    · rw [rowUp_ne _ _ (by omega), rowUp_ne _ _ (by omega), z3.2.2.2.2]
  · refine Or.inr ⟨fl, pl, I4, J2, M2, by rw [x1, b2s]; rfl, ?_, ⟨x2, z2, z3.1, T, h.2.2.2.2.1.mf z3, fun _ _ _ => rfl⟩, fun x a b c d => by rw [x3 x a, ix x b c d]⟩
    rw [z1, obind, gMI, obind, if_neg z2.ne]
end FactLine
