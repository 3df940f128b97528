section Fin
variable {σ : Sg} {I I' J J' I1 I2 I3 Ja : Nat → Nat → Int32} {L L' M M' L1 L2 : Nat → Nat → Int64} {X : Nat → Nat} {n m i i2 la off t1 t2 fl pl dp h0 N kk lim s k b j w r c : Nat} {W : Nat → List Nat} {T T' : Nat → Nat}
theorem SP.wt (h : SP T lim) (h0 : T 0 < 1000) (h7 : T 7 ≤ 480) : WT T := by
  have t6 := h.t6
  obtain ⟨⟨a1, a2, a3, a4, a5, a6, a7⟩, b, c, d, ee, ff, gq, hh, w0, w01, w02⟩ := id h
  have p32 : (2 : Nat) ^ T 2 ≤ 2 ^ 5 := Nat.pow_le_pow_right (by omega) a2
  have p256 := ev_lt a1
  refine ⟨⟨h0, a1, a2, a3, a4, ?_, by omega, h7⟩, b, fun k hk' => ?_, ee, ff, gq, w0, by omega, ?_⟩
  · rw [a6]
    split <;> omega
  · obtain ⟨c1, c2, c3, c4, c5, c6, c7⟩ := c k hk'
    exact ⟨c1, c2, c3, c4, c5, c6, by omega⟩
  · unfold poss
    rw [decide_eq_true w01, w02]; rfl
/-- the class's tables of what is needed and pleaded, and what is behind them -/
theorem fin34 (hla : isLa la) (h : LT I la T) (hS : SP T lim) (h7 : T 7 ≤ 480) (hO : SOk L) (hc : ∀ x, x < T 7 → I (la + 7) x = nI (cc (cT T x))) (hq : ∀ q, q < 26 → sl I la T q) (ho : ∀ f, f < T 1 → I (la + 1) f = nI (T (8 + f)))
    (hk4 : ∀ k, k < T 2 → ∀ i, i < T (26 + k) → I (la + 8) (4 * k + i) = nI (T (84 + T (31 + 4 * k + i))) ∧ I (la + 9) (4 * k + i) = nI (T (117 + T (31 + 4 * k + i)))) (hp : ∀ p, p < T 4 → I (la + 8) (20 + p) = nI (T (84 + T (72 + p))) ∧ I (la + 9) (20 + p) = nI (T (117 + T (72 + p)))) :
    ∃ hh r L', mX1_finish_l34 la 108 0 (hk σ I L) = some (hk σ (rowUp (rowUp I 108 hh) (la + 10) r) L') ∧ (∀ w, w < 256 → r w = nI (wt T w (T 1))) ∧ TBs L' la T ∧ (∀ k, k < T 2 → Rw (L' (la + 17 + 2 * (26 + k))) (won T k)) ∧ ∀ x, (x < 109 ∨ 111 < x) → (x < la + 17 ∨ la + 78 ≤ x) → L' x = L x := by
  have hla' : la = 112 ∨ la = 190 := hla
  have sS := hS
  have h0 : hk σ I L = hk σ (rowUp I 108 (I 108)) L := by rw [rowUp_id]
  rw [h0]
  unfold mX1_finish_l34
  obtain ⟨o, e, hh, r, L', rfl, hr⟩ := lp_inv (f := fun s : Int32 × Hp => mX1_finish_l34f la 108 s.1 s.2) 26 (fun q st => ∃ hh L', st = (nI q, hk σ (rowUp I 108 hh) L') ∧ (∀ x, x < q → ∀ e, e < T 6 → I (la + 8) x = nI (T (84 + e)) → I (la + 9) x = nI (T (117 + e)) → Rw (L' (la + 17 + 2 * x)) (ev T e)) ∧ ∀ x, (x < 109 ∨ 111 < x) → (x < la + 17 ∨ la + 69 ≤ x) → L' x = L x)
    (fun o => ∃ hh r L', o = hk σ (rowUp (rowUp I 108 hh) (la + 10) r) L' ∧ (∀ w, w < 256 → r w = nI (wt T w (T 1))) ∧ TBs L' la T ∧ (∀ k, k < T 2 → Rw (L' (la + 17 + 2 * (26 + k))) (won T k)) ∧ ∀ x, (x < 109 ∨ 111 < x) → (x < la + 17 ∨ la + 78 ≤ x) → L' x = L x)
    (fun q st hq26 hQ => by
      obtain ⟨hh, L1, rfl, q1, q2⟩ := hQ
      obtain ⟨a, b, s1, s2, s3, s4, s5⟩ := hq q hq26
      have hO1 : SOk L1 := fun f hf => by rw [q2 2 (by omega) (by omega)]; exact hO f hf
      obtain ⟨hh', y, n', z, r, te, tr⟩ := tab_ok (σ := σ) (I := rowUp I 108 hh) (L := L1) hO1 (la + 7) (SH_la7 hla) (by omega) (cT T) a b s3 (by omega) s5 (fun j h1 h2 => by rw [rowUp_ne _ _ (by omega)]; exact hc j (by omega)) (la + 16 + 2 * q) (la + 17 + 2 * q) (fun _ _ => wTab hla (by omega)) (by omega) (by omega) (by omega) (by omega)
      have te : mX4_tabulate 108 (la + 7) (nI a) (nI b) (la + 16 + 2 * q) (hk σ (rowUp I 108 hh) L1) = some (hk σ (rowUp (rowUp I 108 hh) 108 hh') (rowUp (rowUp (rowUp (rowUp L1 (la + 17 + 2 * q) r) 109 y) 110 n') 111 z)) := te
      rw [rowUp_two] at te
      have l109 : ∀ x, x < 109 ∨ 111 < x → rowUp (rowUp (rowUp (rowUp L1 (la + 17 + 2 * q) r) 109 y) 110 n') 111 z x = rowUp L1 (la + 17 + 2 * q) r x := fun x hx => by rw [rowUp_ne _ _ (by omega), rowUp_ne _ _ (by omega), rowUp_ne _ _ (by omega)]
      refine ⟨(nI (q + 1), hk σ (rowUp I 108 hh') (rowUp (rowUp (rowUp (rowUp L1 (la + 17 + 2 * q) r) 109 y) 110 n') 111 z)), ?_, hh', rowUp (rowUp (rowUp (rowUp L1 (la + 17 + 2 * q) r) 109 y) 110 n') 111 z, rfl, fun x hx e he e1 e2 => ?_, fun x h1 h2 => ?_⟩
      · show mX1_finish_l34f la 108 (nI q) (hk σ (rowUp I 108 hh) L1) = _
        unfold mX1_finish_l34f
        rw [if_pos (show nI q < (26 : Int32) from nI_lt (b := 26) hq26 (by omega)), gR_la hla, obind, RF_la_12 σ hla, gR_la hla, obind, RF_la_14 σ hla, at_r (SH_la8 hla) (by omega) (by omega), obind, gR_la hla, obind, RF_la_15 σ hla, at_r (SH_la9 hla) (by omega) (by omega), obind, rowUp_ne _ _ (by omega), s1, rowUp_ne _ _ (by omega), s2, table_ok hla (by omega), obind, te, obind, nI_1]
      · rw [l109 _ (by omega)]
        have ew := sS.ew he
        by_cases e0 : x = q
        · subst e0
          rw [rowUp_same]
          rw [s1] at e1
          rw [s2] at e2
          have ea : a = T (84 + e) := (nI_eq (by omega) (by have := ew.1.1; omega)).mp e1
          have eb : b = T (117 + e) := (nI_eq (by omega) (by omega)).mp e2
          subst ea
          subst eb
          exact tr (by rw [ew.1.2.2]; exact Nat.le_refl _)
        · rw [rowUp_ne _ _ (by omega)]; exact q1 x (by omega) e he e1 e2
      · rw [l109 x h1, rowUp_ne _ _ (by omega)]; exact q2 x h1 h2)
    (fun st hQ => by
      obtain ⟨hh, L1, rfl, q1, q2⟩ := hQ
      have hB : TBs L1 la T := ⟨fun k hk' i hi => by
          have c3 := (sS.2.2.1 k hk').2.2
          exact q1 (4 * k + i) (by have := sS.1.2.1; omega) _ (c3.2.1 i hi) (hk4 k hk' i hi).1 (hk4 k hk' i hi).2, fun p hp' => q1 (20 + p) (by have := sS.1.2.2.2.1; omega) _ (sS.2.2.2.2.1 p hp').2 (hp p hp').1 (hp p hp').2⟩
      have hL : LT (rowUp I 108 hh) la T := by
        unfold LT at h ⊢
        rw [rowUp_ne (a := 108) (b := la) _ _ (by omega), rowUp_ne (a := 108) (b := la + 3) _ _ (by omega), rowUp_ne (a := 108) (b := la + 4) _ _ (by omega)]
        exact h
      obtain ⟨r, L', e, f1, f2, f3⟩ := fin77 (σ := σ) hla hL sS hB (fun f hf => by rw [rowUp_ne _ _ (by omega)]; exact ho f hf)
      have c4 : ∀ k, k < T 2 → T (26 + k) ≤ 4 := fun k hk' => (sS.2.2.1 k hk').2.2.1
      refine ⟨_, ?_, hh, r, L', rfl, f1, ⟨fun k hk' i hi => by have := c4 k hk'; have := sS.1.2.1; rw [f3 _ (by omega)]; exact hB.1 k hk' i hi, fun p hp' => by have := sS.1.2.2.2.1; rw [f3 _ (by omega)]; exact hB.2 p hp'⟩, f2, fun x h1 h2 => by rw [f3 x (by omega)]; exact q2 x h1 (by omega)⟩
      show mX1_finish_l34f la 108 (nI 26) (hk σ (rowUp I 108 hh) L1) = _
      unfold mX1_finish_l34f
      rw [if_neg (show ¬ nI 26 < (26 : Int32) by decide), e, xts])
    (s := ((0 : Int32), hk σ (rowUp I 108 (I 108)) L)) ⟨_, _, rfl, fun x hx => absurd hx (Nat.not_lt_zero _), fun _ _ _ => rfl⟩
  exact ⟨hh, r, L', e, hr⟩
/-- the class's law is finished -/
theorem finish_ok (hla : isLa la) (hs : s = 268 ∨ s = 275) (h : SV I J L M X n m i la s W T lim) :
    ∃ I' L', mX1_finish la 108 (hk σ I L) = some (hk σ I' L') ∧ CLw I' L' la T ∧ (∀ x, x ≠ 108 → x ≠ la → x ≠ la + 10 → I' x = I x) ∧ ∀ x, (x < 109 ∨ 111 < x) → (x < la + 12 ∨ la + 78 ≤ x) → L' x = L x := by
  have hla' : la = 112 ∨ la = 190 := hla
  obtain ⟨⟨dp, hp⟩, hS, hD, h22, hO, hW⟩ := h
  have h7 : T 7 ≤ 480 := by have := hp.2.2.2.2.2.2.1; have := hp.1.le.2; omega
  obtain ⟨⟨d0, d3, d4, d5, dm⟩, dO, dk, ds, dp', dq, ⟨dj, d2⟩, dst⟩ := hD
  have c1 : I la 1 = nI (T 1) := hp.2.2.1.2.2.1
  have c2 : I la 2 = nI (T 2) := hp.2.2.1.2.2.2.1 hW
  have c13 : I la 13 = nI (T 7) := by have := hp.2.2.2.2.2.1.1; rw [Nat.zero_add] at this; exact this
  have c7 : ∀ x, x < T 7 → I (la + 7) x = nI (cc (cT T x)) := fun x hx => by have := hp.2.2.2.2.2.1.2 x hx; rw [Nat.zero_add] at this; exact this
  obtain ⟨I1, hI1⟩ : ∃ I1, I1 = rowUp I la (updA (I la) 5 (nI (T 5))) := ⟨_, rfl⟩
  have ix : ∀ x, x ≠ la → I1 x = I x := fun x hx => by rw [hI1, rowUp_ne _ _ hx]
  have ik : ∀ k, k ≠ 5 → I1 la k = I la k := fun k hk' => by rw [hI1, rowUp_same, updA_ne _ _ hk']
  have i5 : I1 la 5 = nI (T 5) := by rw [hI1, rowUp_same, updA_same]
  obtain ⟨r, ke, kr⟩ := keepFirst_ok (σ := σ) (I := I1) hO (wPos hla) (by omega) dm hS.1.1
  have hO2 : SOk (rowUp L (la + 12) r) := fun f hf => by rw [rowUp_ne _ _ (by omega)]; exact hO f hf
  obtain ⟨hh, r2, L', e, f1, f2, f3, f4⟩ := fin34 (σ := σ) (I := I1) (L := rowUp L (la + 12) r) hla ⟨by rw [ik 1 (by omega)]; exact c1, by rw [ik 2 (by omega)]; exact c2, by rw [ik 4 (by omega)]; exact d4, fun k hk' => by rw [ix _ (by omega)]; exact (dk k hk').1, fun p hp' => by rw [ix _ (by omega)]; exact (dp' p hp').1⟩ hS h7 hO2 (fun x hx => by rw [ix _ (by omega)]; exact c7 x hx) (fun q hq => by
    obtain ⟨a, b, s1, s2, s3⟩ := dq q hq
    exact ⟨a, b, by rw [ix _ (by omega)]; exact s1, by rw [ix _ (by omega)]; exact s2, s3⟩) (fun f hf => by rw [ix _ (by omega)]; exact dO f hf) (fun k hk' i hi => by rw [ix _ (by omega), ix _ (by omega)]; exact (dk k hk').2.2 i hi) (fun p hp' => by rw [ix _ (by omega), ix _ (by omega)]; exact (dp' p hp').2)
  obtain ⟨I2, hI2⟩ : ∃ I2, I2 = rowUp (rowUp I1 108 hh) (la + 10) r2 := ⟨_, rfl⟩
  rw [← hI2] at e
  have jx : ∀ x, x ≠ 108 → x ≠ la + 10 → I2 x = I1 x := fun x a b => by rw [hI2, rowUp_ne _ _ b, rowUp_ne _ _ a]
  have c4 : ∀ k, k < T 2 → T (26 + k) ≤ 4 := fun k hk' => (hS.2.2.1 k hk').2.2.1
  have t2 := hS.1.2.1
  have t4 := hS.1.2.2.2.1
  refine ⟨I2, L', ?_, ⟨⟨?_, ?_, ?_, ?_, ?_, ?_⟩, fun f hf => ?_, fun k hk' => ⟨?_, ?_, f3 k hk', fun i hi => ⟨?_, ?_, f2.1 k hk' i hi⟩⟩, fun p hp' => ⟨?_, ?_, ?_, f2.2 p hp'⟩, fun x hx => ?_, fun w hw => ?_, ?_⟩, fun x a b c => by rw [jx x a c, ix x b], fun x a b => by rw [f4 x a (by omega), rowUp_ne _ _ (by omega)]⟩
  · have b18 : mX1_finish_b18 la 108 la (nI (T 5)) (hk σ I L) = some (hk σ I2 L') := by
      unfold mX1_finish_b18
      rw [sI_la hla, obind, ← hI1, gR_la hla, obind, RF_la_17 σ hla, gI_la hla, obind, ik 1 (by omega), c1, ke, obind, e]
    have l9 := hS.1.2.2.2.2.1
    unfold mX1_finish
    rw [if_pos (slaw hla), gI_la hla, obind, d5, c_0 (by omega)]
    have a6 := hS.1.2.2.2.2.2.1
    by_cases q : lim = 0
    · rw [if_pos q] at a6
      rw [a6] at b18
      rw [if_pos q]
      exact b18
    · rw [if_neg q] at a6
      rw [a6] at b18
      rw [if_neg q, obind]
      exact b18
  · rw [jx la (by omega) (by omega), ik 0 (by omega)]; exact d0
  · rw [jx la (by omega) (by omega), ik 1 (by omega)]; exact c1
  · rw [jx la (by omega) (by omega), ik 2 (by omega)]; exact c2
  · rw [jx la (by omega) (by omega), ik 4 (by omega)]; exact d4
  · rw [jx la (by omega) (by omega)]; exact i5
  · rw [jx la (by omega) (by omega), ik 13 (by omega)]; exact c13
  · rw [jx _ (by omega) (by omega), ix _ (by omega)]; exact dO f hf
  · rw [jx _ (by omega) (by omega), ix _ (by omega)]; exact (dk k hk').1
  · rw [jx _ (by omega) (by omega), ix _ (by omega)]; exact (dk k hk').2.1
  · rw [jx _ (by omega) (by omega), ix _ (by omega)]; exact ((dk k hk').2.2 i hi).1
  · rw [jx _ (by omega) (by omega), ix _ (by omega)]; exact ((dk k hk').2.2 i hi).2
  · rw [jx _ (by omega) (by omega), ix _ (by omega)]; exact (dp' p hp').1
  · rw [jx _ (by omega) (by omega), ix _ (by omega)]; exact (dp' p hp').2.1
  · rw [jx _ (by omega) (by omega), ix _ (by omega)]; exact (dp' p hp').2.2
  · rw [jx _ (by omega) (by omega), ix _ (by omega)]; exact c7 x hx
  · rw [hI2, rowUp_same]; exact f1 w hw
  · rw [f4 _ (by omega) (by omega), rowUp_same]
    exact kr.cg fun w _ => by unfold poss; rw [Bool.and_comm]
end Fin
