section Told
variable {σ τ : Sg} {I I' J J' I1 I2 I3 Ja : Nat → Nat → Int32} {L L' M M' L1 L2 : Nat → Nat → Int64} {X : Nat → Nat} {n m i la off t1 t2 fl pl dp h0 N kk : Nat} {W : Nat → List Nat} {T T' : Nat → Nat}
theorem ld435 {k : Nat} (hT : rTd J T) (hk' : k < 640) : ldI 435 (nI k) (hk τ J M) = some (nI (T k)) := by rw [ldI_ok (n := 640) rfl hk' (by omega), hpI_hk, hT k hk']
theorem st435 {k : Nat} (v : Int32) (hk' : k < 640) : stI 435 (nI k) v (hk τ J M) = some (hk τ (rowUp J 435 (updA (J 435) k v)) M) := by rw [stI_ok (n := 640) rfl hk' (by omega), setI_hk, hpI_hk']
theorem rTd.set (h : rTd J T) (k v : Nat) : rTd (rowUp J 435 (updA (J 435) k (nI v))) (updA T k v) := fun j hj => by
  rw [rowUp_same, updA_at, updA_at]
  by_cases e : j = k
  · rw [if_pos e, if_pos e]
  · rw [if_neg e, if_neg e]; exact h j hj
theorem MFl.set (h : MFl J fl pl) (r : Nat → Int32) : MFl (rowUp J 435 r) fl pl := ⟨h.1, h.2.1, h.2.2.1, by rw [rowUp_ne _ _ (by omega)]; exact h.2.2.2.1, by rw [rowUp_ne _ _ (by omega)]; exact h.2.2.2.2⟩
theorem PE.set (h : PE I J M X n m i la off W t1 t2 T dp) {k : Nat} (v : Nat) (h1 : k ≠ 1) (h2 : k ≠ 2) (h7 : k ≠ 7) (h150 : k < 150) : PE I (rowUp J 435 (updA (J 435) k (nI v))) M X n m i la off W t1 t2 (updA T k v) dp := by
  refine ⟨h.1, h.2.1.up435 _, h.2.2.1, ⟨h.2.2.2.1.1, h.2.2.2.1.2.1, by rw [rowUp_same, updA_ne _ _ (by omega)]; exact h.2.2.2.1.2.2.1, by rw [rowUp_same, updA_ne _ _ (by omega)]; exact h.2.2.2.1.2.2.2.1, h.2.2.2.1.2.2.2.2⟩, h.2.2.2.2.1.set k v, ⟨by rw [updA_ne _ _ (by omega)]; exact h.2.2.2.2.2.1.1, fun j hj => ?_⟩, by rw [updA_ne _ _ (by omega)]; exact h.2.2.2.2.2.2.1, by rw [rowUp_ne _ _ (by omega)]; exact h.2.2.2.2.2.2.2⟩
  rw [updA_ne _ _ (by omega)] at hj
  have : cT (updA T k v) j = cT T j := updA_ne _ _ (by omega)
  rw [this]
  exact h.2.2.2.2.2.1.2 j hj
/-- the model's EXPR once it is wrong -/
theorem expr_bad (h : MFl J fl pl) (hT : rTd J T) (h6 : T 6 ≤ 32) : ∃ J' T', mX12_expr 433 (hk τ J M) = some (nI (T 6), hk τ J' M) ∧ MFl J' fl pl ∧ MX J M J' M ∧ rTd J' T' ∧ ∀ j, j < 84 → T' j = T j := by
  have hA := hT.set (84 + T 6) (T 7)
  have bA := (h.set (updA (J 435) (84 + T 6) (nI (T 7)))).bf (BF.up 0)
  have tA := hA.bf (BF.up (J := rowUp J 435 (updA (J 435) (84 + T 6) (nI (T 7)))) 0)
  have hB := tA.set (117 + T 6) (T 7)
  have hC := hB.set 6 (T 6)
  have bB := bA.set (updA ((rowUp (rowUp J 435 (updA (J 435) (84 + T 6) (nI (T 7)))) 433 (updA ((rowUp J 435 (updA (J 435) (84 + T 6) (nI (T 7)))) 433) 16 0)) 435) (117 + T 6) (nI (T 7)))
  have a7 : updA T (84 + T 6) (T 7) 7 = T 7 := updA_ne _ _ (by omega)
  have a6 : updA (updA T (84 + T 6) (T 7)) (117 + T 6) (T 7) 6 = T 6 := by rw [updA_ne _ _ (by omega), updA_ne _ _ (by omega)]
  have e2 : mX12_either 40 433 (hk τ (rowUp (rowUp J 435 (updA (J 435) (84 + T 6) (nI (T 7)))) 433 (updA ((rowUp J 435 (updA (J 435) (84 + T 6) (nI (T 7)))) 433) 16 0)) M) = _ := geither_bad bA 37
  refine ⟨_, updA (updA (updA T (84 + T 6) (T 7)) (117 + T 6) (T 7)) 6 (T 6), ?_, bB.set _, (MX.u435 _).tr ((MX.dep 0).tr ((MX.u435 _).tr (MX.u435 _))), hC, fun j hj => ?_⟩
  · unfold mX12_expr mX12_expr_b69
    rw [if_pos s433, gM 1, RF_433_1, show (6 : Int32) = nI 6 from rfl, ld435 hT (by omega), obind, gM 1, RF_433_1, gM 1, RF_433_1, show (7 : Int32) = nI 7 from rfl, ld435 hT (by omega), obind, show (84 : Int32) = nI 84 from rfl, nI_add, st435 _ (by omega), obind, dep_ok, obind, e2, obind, gM 1, RF_433_1, gM 1, RF_433_1, ld435 tA (by omega), obind, a7, show (117 : Int32) = nI 117 from rfl, nI_add, st435 _ (by omega), obind, gM 1, RF_433_1, ld435 hB (by omega), obind, a6, gMI, obind, if_neg bB.ne, show (0 : Int32) = nI 0 from rfl, nI_add, Nat.add_zero, st435 _ (by omega), obind]
  · rw [updA_at]
    by_cases e : j = 6
    · rw [if_pos e, e]
    · rw [if_neg e, updA_ne _ _ (by omega), updA_ne _ _ (by omega)]
/-- EXPR, as both sides note it -/
theorem expr_ok (hla : isLa la) (hg : gpl σ = la) (hoff : off ≤ 480) (h : PE I J M X n m i la off W t1 t2 T dp) (h6 : T 6 ≤ 32) :
    (∃ I' J' M' i' T', mX2_readEither 40 282 (0 : Int32) (hk σ I L) = some (1, hk σ I' L) ∧ mX12_expr 433 (hk τ J M) = some (nI (T 6), hk τ J' M') ∧ PE I' J' M' X n m i' la off W t1 t2 T' 0 ∧ i < i' ∧ T' 7 + i ≤ T 7 + i' ∧ T' 6 = T 6 + 1 ∧ T' (84 + T 6) = T 7 ∧ T' (117 + T 6) = T' 7 ∧
      (∀ j, j ≠ 7 → j ≠ 6 → j ≠ 84 + T 6 → j ≠ 117 + T 6 → j < 150 + T 7 → T' j = T j) ∧ RG t1 (cT T') (T 7) (T' 7) 0 1 ∧ CF3 la I I' ∧ MX J M J' M') ∨
    (∃ fl pl I' J' M' T', mX2_readEither 40 282 (0 : Int32) (hk σ I L) = some (0, hk σ I' L) ∧ mX12_expr 433 (hk τ J M) = some (nI (T 6), hk τ J' M') ∧ CFl I' fl pl ∧ CF3 la I I' ∧ MFl J' fl pl ∧ MX J M J' M' ∧ rTd J' T' ∧ ∀ j, j < 84 → j ≠ 7 → T' j = T j) := by
  have hT := h.2.2.2.2.1
  have p1 := (h.set (k := 84 + T 6) (T 7) (by omega) (by omega) (by omega) (by omega)).dep 0
  have a7 : updA T (84 + T 6) (T 7) 7 = T 7 := updA_ne _ _ (by omega)
  have pre : ∀ {α : Type} (K : Hp → Option α), ((gR 12 1 433 (hk τ J M)).bind fun v3 => (gR 12 1 433 (hk τ J M)).bind fun v4 => (ldI v4 (7 : Int32) (hk τ J M)).bind fun v5 => (stI v3 ((84 : Int32) + nI (T 6)) v5 (hk τ J M)).bind fun h6 => (sI 12 16 433 (0 : Int32) h6).bind K) = K (hk τ (rowUp (rowUp J 435 (updA (J 435) (84 + T 6) (nI (T 7)))) 433 (updA ((rowUp J 435 (updA (J 435) (84 + T 6) (nI (T 7)))) 433) 16 (nI 0))) M) := fun K => by
    rw [gM 1, RF_433_1, gM 1, RF_433_1, show (7 : Int32) = nI 7 from rfl, ld435 hT (by omega), obind, show (84 : Int32) = nI 84 from rfl, nI_add, st435 _ (by omega), obind, dep_ok, obind]
    rfl
  rcases exprE (σ := σ) (τ := τ) (L := L) hla hg hoff p1 with ⟨I2, J2, M2, i2, T2, e1, e2, p2, l2, l3, a2, r2, f2, g2⟩ | ⟨fl, pl, I2, J2, M2, T2, e1, e2, c2, f2, b2', g2, r2, a2⟩
  · rw [a7] at l3 r2 a2
    have t26 : T2 6 = T 6 := by rw [a2 6 (by omega) (by omega), updA_ne _ _ (by omega)]
    have rge := r2.1.1
    have q1 := p2.set (k := 117 + T 6) (T2 7) (by omega) (by omega) (by omega) (by omega)
    have q2 := q1.set (k := 6) (T 6 + 1) (by omega) (by omega) (by omega) (by omega)
    have b6 : updA T2 (117 + T 6) (T2 7) 6 = T 6 := by rw [updA_ne _ _ (by omega), t26]
    refine Or.inl ⟨I2, _, M2, i2, updA (updA T2 (117 + T 6) (T2 7)) 6 (T 6 + 1), e1, ?_, q2, l2, ?_, updA_same _ _ _, ?_, ?_, fun j j7 j6 j84 j117 hj => ?_, ?_, f2, (MX.u435 _).tr ((MX.dep _).tr (g2.tr ((MX.u435 _).tr (MX.u435 _))))⟩
    · unfold mX12_expr mX12_expr_b69
      rw [if_pos s433, gM 1, RF_433_1, show (6 : Int32) = nI 6 from rfl, ld435 hT (by omega), obind, pre, e2, obind, gM 1, RF_433_1, gM 1, RF_433_1, show (7 : Int32) = nI 7 from rfl, ld435 p2.2.2.2.2.1 (by omega), obind, show (117 : Int32) = nI 117 from rfl, nI_add, st435 _ (by omega), obind, gM 1, RF_433_1, ld435 q1.2.2.2.2.1 (by omega), obind, b6, gMI, obind, if_pos q1.2.1.2.2, nI_1, st435 _ (by omega), obind]
    · rw [updA_ne _ _ (by omega), updA_ne _ _ (by omega)]; exact l3
    · rw [updA_ne _ _ (by omega), updA_ne _ _ (by omega), a2 _ (by omega) (by omega), updA_same]
    · rw [updA_ne _ _ (by omega), updA_same, updA_ne _ _ (by omega), updA_ne _ _ (by omega)]
    · rw [updA_ne _ _ j6, updA_ne _ _ j117, a2 j j7 hj, updA_ne _ _ j84]
    · rw [updA_ne _ _ (by omega), updA_ne _ _ (by omega)]
      exact r2.cg (fun s _ _ => by show updA (updA T2 _ _) 6 _ (150 + s) = T2 (150 + s); rw [updA_ne _ _ (by omega), updA_ne _ _ (by omega)])
  · have t26 : T2 6 = T 6 := by rw [a2 6 (by omega) (by omega), updA_ne _ _ (by omega)]
    have hB := r2.set (117 + T 6) (T2 7)
    have hC := hB.set 6 (T 6)
    have b6 : updA T2 (117 + T 6) (T2 7) 6 = T 6 := by rw [updA_ne _ _ (by omega), t26]
    have bB := b2'.set (updA (J2 435) (117 + T 6) (nI (T2 7)))
    refine Or.inr ⟨fl, pl, I2, _, M2, updA (updA T2 (117 + T 6) (T2 7)) 6 (T 6), e1, ?_, c2, f2, bB.set _, (MX.u435 _).tr ((MX.dep _).tr (g2.tr ((MX.u435 _).tr (MX.u435 _)))), hC, fun j hj j7 => ?_⟩
    · unfold mX12_expr mX12_expr_b69
      rw [if_pos s433, gM 1, RF_433_1, show (6 : Int32) = nI 6 from rfl, ld435 hT (by omega), obind, pre, e2, obind, gM 1, RF_433_1, gM 1, RF_433_1, show (7 : Int32) = nI 7 from rfl, ld435 r2 (by omega), obind, show (117 : Int32) = nI 117 from rfl, nI_add, st435 _ (by omega), obind, gM 1, RF_433_1, ld435 hB (by omega), obind, b6, gMI, obind, if_neg bB.ne, show (0 : Int32) = nI 0 from rfl, nI_add, Nat.add_zero, st435 _ (by omega), obind]
    · rw [updA_at]
      by_cases e : j = 6
      · rw [if_pos e, e]
      · rw [if_neg e, updA_ne _ _ (by omega), a2 j j7 (by omega), updA_ne _ _ (by omega)]
end Told
