section Into
variable {σ τ : Sg} {I I' J J' I1 I2 I3 Ja : Nat → Nat → Int32} {L L' M M' L1 L2 : Nat → Nat → Int64} {X : Nat → Nat} {n m i la off t1 t2 fl pl dp h0 N kk lim s : Nat} {W : Nat → List Nat} {T T' : Nat → Nat}
theorem PE.irow (h : PE I J M X n m i la off W t1 t2 T dp) {x : Nat} (r : Nat → Int32) (h0 : 107 < x) (h1 : x ≠ 282) (h2 : x ≠ la) (h3 : x ≠ la + 2) (h4 : x ≠ la + 7) : PE (rowUp I x r) J M X n m i la off W t1 t2 T dp := by
  refine ⟨h.1.row r h0 h1, h.2.1, ?_, h.2.2.2.1, h.2.2.2.2.1, ?_, h.2.2.2.2.2.2⟩
  · have := h.2.2.1
    unfold CN at this ⊢
    rw [rowUp_ne _ _ (Ne.symm h2), rowUp_ne _ _ (Ne.symm h3)]
    exact this
  · have := h.2.2.2.2.2.1
    unfold CK at this ⊢
    rw [rowUp_ne _ _ (Ne.symm h2), rowUp_ne _ _ (Ne.symm h4)]
    exact this
/-- EXPR read into a slot -/
theorem into_ok (hla : isLa la) (hg : gpl σ = la) (h : PE I J M X n m i la 0 W t1 t2 T dp) (h6 : T 6 ≤ 32) (hs : s < 26) :
    (∃ I' J' M' i' T', mX2_readInto 282 (nI s) (hk σ I L) = some (1, hk σ I' L) ∧ mX12_expr 433 (hk τ J M) = some (nI (T 6), hk τ J' M') ∧ PE I' J' M' X n m i' la 0 W t1 t2 T' 0 ∧ i < i' ∧ T' 7 + i ≤ T 7 + i' ∧ T' 6 = T 6 + 1 ∧ T' (84 + T 6) = T 7 ∧ T' (117 + T 6) = T' 7 ∧
      (∀ j, j ≠ 7 → j ≠ 6 → j ≠ 84 + T 6 → j ≠ 117 + T 6 → j < 150 + T 7 → T' j = T j) ∧ RG t1 (cT T') (T 7) (T' 7) 0 1 ∧ I' (la + 8) = updA (I (la + 8)) s (nI (T 7)) ∧ I' (la + 9) = updA (I (la + 9)) s (nI (T' 7)) ∧
      (∀ x, x ≠ 282 → x ≠ la → x ≠ la + 7 → x ≠ la + 8 → x ≠ la + 9 → I' x = I x) ∧ (∀ k, k ≠ 13 → I' la k = I la k) ∧ MX J M J' M') ∨
    (∃ fl pl I' J' M', mX2_readInto 282 (nI s) (hk σ I L) = some (0, hk σ I' L) ∧ mX12_expr 433 (hk τ J M) = some (nI (T 6), hk τ J' M') ∧ LN I J M T fl pl I' J' M' ∧ (∀ x, x ≠ 282 → x ≠ la → x ≠ la + 7 → x ≠ la + 8 → x ≠ la + 9 → I' x = I x) ∧ (∀ k, k ≠ 13 → I' la k = I la k)) := by
  have hgt := la_gt hla
  have sh : SH (gN σ) (la + 8) = (50, 26) ∧ SH (gN σ) (la + 9) = (50, 26) ∧ RF σ la 14 = la + 8 ∧ RF σ la 15 = la + 9 := by rcases hla with rfl | rfl <;> exact ⟨rfl, rfl, rfl, rfl⟩
  have k13 := h.2.2.2.2.2.1.1
  rw [Nat.zero_add] at k13
  have p1 := h.irow (x := la + 8) (updA (I (la + 8)) s (nI (T 7))) (by omega) (by omega) (by omega) (by omega) (by omega)
  have pre : ∀ {α : Type} (K : Hp → Option α), ((gR 2 3 282 (hk σ I L)).bind fun v1 => (gR 1 14 v1 (hk σ I L)).bind fun v2 => (gR 2 3 282 (hk σ I L)).bind fun v3 => (gI 1 13 v3 (hk σ I L)).bind fun v4 => (mX11_put v2 (nI s) v4 (hk σ I L)).bind K) = K (hk σ (rowUp I (la + 8) (updA (I (la + 8)) s (nI (T 7)))) L) := fun K => by
    rw [gDr, hg, gR_la hla, obind, sh.2.2.1, gDr, hg, gI_la hla, obind, k13, put_nI (n := 26) (by rw [hpS_hk]; exact sh.1) (by omega) hs, obind, setI_hk, hpI_hk']
  have post : ∀ {α : Type} (I2 : Nat → Nat → Int32) (K : Hp → Option α), ((gR 2 3 282 (hk σ I2 L)).bind fun v9 => (gR 1 15 v9 (hk σ I2 L)).bind fun v10 => (gR 2 3 282 (hk σ I2 L)).bind fun v11 => (gI 1 13 v11 (hk σ I2 L)).bind fun v12 => (mX11_put v10 (nI s) v12 (hk σ I2 L)).bind K) = K (hk σ (rowUp I2 (la + 9) (updA (I2 (la + 9)) s (I2 la 13))) L) := fun I2 K => by
    rw [gDr, hg, gR_la hla, obind, sh.2.2.2, gDr, hg, gI_la hla, obind, put_nI (n := 26) (by rw [hpS_hk]; exact sh.2.1) (by omega) hs, obind, setI_hk, hpI_hk']
  unfold mX2_readInto
  rw [if_pos s282, pre]
  rcases expr_ok (σ := σ) (τ := τ) (L := L) hla hg (by omega) p1 h6 with ⟨I2, J2, M2, i2, T2, e1, e2, p2, l2, l3, a6, a84, a117, a2, r2, f2, g2⟩ | ⟨fl, pl, I2, J2, M2, T2, e1, e2, c2, f2, b2', g2, r2, a2⟩
  · have q13 : I2 la 13 = nI (T2 7) := by have := p2.2.2.2.2.2.1.1; rw [Nat.zero_add] at this; exact this
    refine Or.inl ⟨_, J2, M2, i2, T2, ?_, e2, p2.irow (x := la + 9) (updA (I2 (la + 9)) s (nI (T2 7))) (by omega) (by omega) (by omega) (by omega) (by omega), l2, l3, a6, a84, a117, a2, r2, ?_, ?_, fun x a b c d e => ?_, fun k hk' => ?_, g2⟩
    · rw [e1, b2s, post, q13]
      rfl
    · rw [rowUp_ne _ _ (by omega), f2.1 _ (by omega) (by omega) (by omega), rowUp_same]
    · rw [rowUp_same, f2.1 _ (by omega) (by omega) (by omega), rowUp_ne _ _ (by omega)]
    · rw [rowUp_ne _ _ e, f2.1 x a b c, rowUp_ne _ _ d]
    · rw [rowUp_ne _ _ (by omega), f2.2.1 k hk', rowUp_ne _ _ (by omega)]
  · refine Or.inr ⟨fl, pl, rowUp I2 (la + 9) (updA (I2 (la + 9)) s (I2 la 13)), J2, M2, ?_, e2, ⟨⟨c2.1, c2.2.1, c2.2.2.1, by rw [rowUp_ne _ _ (by omega)]; exact c2.2.2.2.1, by rw [rowUp_ne _ _ (by omega)]; exact c2.2.2.2.2⟩, b2', g2.1, T2, r2, a2⟩, fun x a b c d e => ?_, fun k hk' => ?_⟩
    · rw [e1, b2s, post]
      rfl
    · rw [rowUp_ne _ _ e, f2.1 x a b c, rowUp_ne _ _ d]
    · rw [rowUp_ne _ _ (by omega), f2.2.1 k hk', rowUp_ne _ _ (by omega)]
end Into
