/-- the model's question, from its expression on -/
noncomputable def mAskE (h : Hp) : Option (Int32 × Hp) := b2 (mX12_expr 433 h) fun _ h12 => (gI 12 14 433 h12).bind fun v13 => if v13 = 0 then (mX12_ask_b75 433 h12) else ((mX12_wrong 433 (1 : Int32) h12).bind fun h38 => mX12_ask_b75 433 h38)
/-- the class's question, once it is read -/
noncomputable def cRest (t0 t1 : Int32) (h : Hp) : Option (Int32 × Hp) := (mX11_remember 100 h).bind fun h18 => (gR 11 2 100 h18).bind fun v19 => (gR 11 3 100 h18).bind fun v20 => (gR 1 12 v20 h18).bind fun v21 => (gR 11 11 100 h18).bind fun v22 => (mX4_tabulate v19 v21 t0 t1 v22 h18).bind fun h24 => (gR 11 9 100 h24).bind fun v25 => (gR 11 11 100 h24).bind fun v26 => (mX10_howIn v25 v26 h24).bind fun v27 => (gR 11 3 100 h24).bind fun v29 => (gR 11 9 100 h24).bind fun v30 => (mX1_weigh v29 v30 h24).bind fun v31 => (gR 11 9 100 h24).bind fun v33 => (gR 11 11 100 h24).bind fun v34 => (mX10_and v33 v34 h24).bind fun h36 => (gR 11 3 100 h36).bind fun v37 => (gR 11 9 100 h36).bind fun v38 => (mX1_weigh v37 v38 h36).bind fun v39 => (mX11_inLowestTerms v39 v31 (0 : Int32)).bind fun v41 => (sL 11 16 100 v41 h36).bind fun h43 => (mX11_inLowestTerms v39 v31 (1 : Int32)).bind fun v44 => (sL 11 17 100 v44 h43).bind fun h46 => some (v27, h46)
section QAsk
variable {σ σ' : Sg} {I I' J J' I1 I2 I3 I4 Ja : Nat → Nat → Int32} {L L' M M' L1 L2 : Nat → Nat → Int64} {S : Nat → Int32} {X : Nat → Nat} {n m i i2 la off t t1 t2 t7 fl pl dp h0 kk lim s k b j w r c v a : Nat} {W : Nat → List Nat} {T T' N cd : Nat → Nat} {P : Nat → Nat → Nat} {K : Nat → Bool} {Q : Nat → Nat → Nat}
theorem ma34 {o : Int32 × Hp} (h : mAskE (hk σ J (rowUp M 437 (fun i => if i < 8 then M 436 i else M 437 i))) = some o) : mX12_ask_l34 433 0 (hk σ J M) = some o := by
  have h0 : hk σ J M = hk σ J (rowUp M 437 (fun i => if i < 0 then M 436 i else M 437 i)) := by
    have : (fun i => if i < 0 then M 436 i else M 437 i) = M 437 := by funext i; exact if_neg (Nat.not_lt_zero _)
    rw [this, rowUp_id]
  rw [h0]
  unfold mX12_ask_l34
  refine lp_traj (f := fun s : Int32 × Hp => mX12_ask_l34f 433 s.1 s.2) 8 (fun k => (nI k, hk σ J (rowUp M 437 (fun i => if i < k then M 436 i else M 437 i)))) o (fun k hk' => ?_) ?_
  · show mX12_ask_l34f 433 (nI k) (hk σ J (rowUp M 437 (fun i => if i < k then M 436 i else M 437 i))) = _
    unfold mX12_ask_l34f
    rw [if_pos (show nI k < (8 : Int32) from nI_lt (b := 8) hk' (by omega)), gM 3, RF_433_3, gM 2, RF_433_2, ldL_ok (n := 13) rfl (by omega) (by omega), obind, stL_ok (n := 13) rfl (by omega) (by omega), obind, setL_hk, hpL_hk'', hpL_hk'', rowUp_two, rowUp_same, rowUp_ne (a := 437) (b := 436) _ _ (by omega), nI_1]
    have : updA (fun i => if i < k then M 436 i else M 437 i) k (M 436 k) = fun i => if i < k + 1 then M 436 i else M 437 i := by
      funext i
      rw [updA_at]
      by_cases q : i = k
      · rw [if_pos q, if_pos (by omega), q]
      · rw [if_neg q]
        by_cases q2 : i < k
        · rw [if_pos q2, if_pos (by omega)]
        · rw [if_neg q2, if_neg (by omega)]
    rw [this]
  · show mX12_ask_l34f 433 (nI 8) (hk σ J (rowUp M 437 (fun i => if i < 8 then M 436 i else M 437 i))) = _
    unfold mX12_ask_l34f
    unfold mAskE at h
    rw [if_neg (show ¬ nI 8 < (8 : Int32) by decide), h, xts]
/-- the model begins a question -/
theorem mask_ok (hn : n ≤ 480) (h10 : J 433 10 = nI n) (hX : ∀ i, i < n → X i < 256 ∧ J 442 i = nI (X i)) (h1 : J 434 1 = nI t) : ∃ J' M', (∀ o, mAskE (hk σ J' M') = some o → mX12_ask 433 (hk σ J M) = some o) ∧ PMk J' M' X n 0 ∧ J' 435 1 = nI t ∧ J' 435 6 = 0 ∧ J' 435 7 = 0 ∧ (∀ f, f < 8 → M' 437 f = M 436 f) ∧ J' 433 10 = 0 ∧ (∀ x, x ≠ 433 → x ≠ 435 → J' x = J x) ∧ (∀ k, k < 10 ∨ 18 < k → J' 433 k = J 433 k) ∧ (∀ x, x ≠ 433 → x ≠ 437 → M' x = M x) ∧ ∀ k, k ≠ 21 → M' 433 k = M 433 k := by
  obtain ⟨J1, M1, e, p, f10, fx, fk, mx, mk⟩ := takes_ok (σ := σ) (M := M) hn h10 hX
  obtain ⟨J2, hJ2⟩ : ∃ J2, J2 = rowUp J1 435 (updA (updA (updA (J1 435) 1 (nI t)) 6 0) 7 0) := ⟨_, rfl⟩
  have x2 : ∀ x, x ≠ 435 → J2 x = J1 x := fun x a => by rw [hJ2, rowUp_ne _ _ a]
  have p2 : PMk J2 M1 X n 0 := by rw [hJ2]; exact p.up435 _
  refine ⟨J2, rowUp M1 437 (fun i => if i < 8 then M1 436 i else M1 437 i), fun o ho => ?_, p2.up437 _, by rw [hJ2, rowUp_same]; rfl, by rw [hJ2, rowUp_same]; rfl, by rw [hJ2, rowUp_same]; rfl, fun f hf => ?_, by rw [x2 433 (by omega)]; exact f10, fun x a b => by rw [x2 x b, fx x a], fun k a => by rw [x2 433 (by omega), fk k (by omega)], fun x a b => by rw [rowUp_ne _ _ b, mx x a], fun k a => by rw [rowUp_ne _ _ (by omega), mk k a]⟩
  · unfold mX12_ask
    rw [if_pos s433, e, obind, gM 1, RF_433_1, g434, show (1 : Int32) = nI 1 from rfl, ldI_ok (n := 640) rfl (by omega) (by omega), obind, hpI_hk, fx 434 (by omega), h1, st435 _ (by omega), obind, gM 1, RF_433_1, show (6 : Int32) = nI 6 from rfl, st435 _ (by omega), obind, rowUp_two, rowUp_same, gM 1, RF_433_1, show (7 : Int32) = nI 7 from rfl, st435 _ (by omega), obind, rowUp_two, rowUp_same, ← hJ2]
    exact ma34 ho
  · rw [rowUp_same]
    show (if f < 8 then M1 436 f else M1 437 f) = _
    rw [if_pos hf, mx 436 (by omega)]
theorem ab75_bad (h : MFl J fl pl) : ∃ J', mX12_ask_b75 433 (hk σ J M) = some (-1, hk σ J' M) ∧ J' 433 19 = nI fl ∧ J' 433 20 = nI pl ∧ (∀ x, x ≠ 433 → J' x = J x) ∧ ∀ k, k ≠ 19 → k ≠ 20 → J' 433 k = J 433 k := by
  obtain ⟨J1, e1, f19, f20, fx, fk⟩ := isRead_ok (σ := σ) (J := J) (M := M)
  rw [decide_eq_false h.ne] at e1
  rw [if_neg h.ne] at f20
  refine ⟨J1, ?_, by rw [f19]; exact h.2.2.2.1, by rw [f20]; exact h.2.2.2.2, fx, fk⟩
  unfold mX12_ask_b75
  rw [e1, b2s, if_pos (show bI false = 0 from rfl)]
/-- ask -/
theorem q_ask (h : AL σ I L S T N a P K Q X n fl pl W) : LW σ S (mX11_ask 100 (hk σ I L)) (fun hp => mX12_ask 433 hp) := by
  obtain ⟨hSG, hS1, hB, hX, hF, hA, hN, hR⟩ := id h
  obtain ⟨ga, gb, gne, sa1, sa2, sb1, sb2, sne⟩ := id hSG
  obtain ⟨la, hlb⟩ : ∃ la, la = gla σ := ⟨_, rfl⟩
  rw [← hlb] at ga gne hN
  have hsa : gsa σ = 268 ∨ gsa σ = 275 := by unfold isSt at sa1; omega
  have hla' : la = 112 ∨ la = 190 := ga
  have hW : WT T := hB.1.2.1
  have h7 := hW.1.2.2.2.2.2.2.2
  have h1 := hW.1.2.1
  have hCL : CLw I L la T := by rw [hlb]; exact hB.1.2.2.2.1
  have hO : SOk L := hB.1.1.2.2
  obtain ⟨m, I1, se, hm, hTK, hpz, hlt, hTF⟩ := split_ok (σ := σ) (L := L) (X := X) (n := n) ⟨hX.1, hX.2.1, fun i hi => ⟨(hX.2.2.2 i hi).1, (hX.2.2.2 i hi).2.1⟩⟩ hR
  have i1 : ∀ x, (x < 103 ∨ 106 < x) → I1 x = I x := fun x hx => by
    by_cases q : x = 107
    · rw [q]; exact hTF.1
    · exact hTF.2 x (by omega)
  obtain ⟨I3, hI3⟩ : ∃ I3, I3 = rowUp (rowUp I1 101 (updA (I1 101) 1 0)) 282 (updA (updA (I1 282) 5 0) 7 0) := ⟨_, rfl⟩
  have i3' : ∀ x, x ≠ 101 → x ≠ 282 → I3 x = I1 x := fun x a b => by rw [hI3, rowUp_ne _ _ b, rowUp_ne _ _ a]
  have i3 : ∀ x, x ≠ 101 → x ≠ 282 → (x < 103 ∨ 106 < x) → I3 x = I x := fun x a b c => by rw [i3' x a b, i1 x c]
  have i101 : I3 101 1 = 0 := by rw [hI3, rowUp_ne _ _ (by omega), rowUp_same, updA_same]
  have i282 : I3 282 5 = nI 0 ∧ I3 282 7 = 0 := by rw [hI3, rowUp_same]; exact ⟨rfl, rfl⟩
  have pc : PCk I3 X n m 0 := ⟨⟨hX.1, i282.2⟩, hm, ⟨by rw [i3' 103 (by omega) (by omega)]; exact hTK.1, fun j hj => by rw [i3' 104 (by omega) (by omega), i3' 105 (by omega) (by omega), i3' 106 (by omega) (by omega)]; exact hTK.2 j hj⟩, hpz, hlt, i282.1, Nat.zero_le _⟩
  have l13 : I3 la 13 = nI (T 7) := by rw [i3 la (by omega) (by omega) (by omega)]; exact hCL.1.2.2.2.2.2
  obtain ⟨σa, hσa⟩ : ∃ σa, σa = sgl σ la := ⟨_, rfl⟩
  have bg : gpl σa = la := by rw [hσa]; rfl
  have gf : gla σa = la ∧ glb σa = glb σ ∧ gsa σa = gsa σ ∧ gsb σa = gsb σ ∧ gN σa = gN σ := by rw [hσa, hlb]; exact ⟨rfl, rfl, rfl, rfl, rfl⟩
  have e3 : ∀ I L, gR 11 3 100 (hk σa I L) = some la := fun I L => by rw [hσa, hlb]; rfl
  -- the class, with what its reading answers
  have pre : mX11_ask 100 (hk σ I L) = b2 (b2 (mX2_readEither 40 282 (0 : Int32) (hk σa I3 L)) fun v3 h4 => if v3 = 0 then (some ((0 : Int32), h4)) else (b2 (mX2_expect 282 (0 : Int32) h4) fun v5 h6 => if v5 = 0 then (some ((0 : Int32), h6)) else (some ((1 : Int32), h6)))) fun v11 h12 => (gR 11 3 100 h12).bind fun v13 => (gI 1 13 v13 h12).bind fun v14 => (gR 11 3 100 h12).bind fun v15 => (sI 1 13 v15 (nI (T 7)) h12).bind fun h16 => if v11 = 0 then (some ((-1 : Int32), h16)) else cRest (nI (T 7)) v14 h16 := by
    have l13' : (rowUp I1 101 (updA (I1 101) 1 0)) la 13 = nI (T 7) := by rw [rowUp_ne _ _ (by omega), i1 la (by omega)]; exact hCL.1.2.2.2.2.2
    unfold mX11_ask mX2_readQuestion mX2_begin cRest
    rw [if_pos s100, show gR 11 1 100 (hk σ I L) = some 103 from rfl, obind, gTxt, se, obind, gTxt, sI_ok s101, obind, setI_hk, hpI_hk', gLa, ← hlb, gI_la ga, obind, l13', gPar, gLa, ← hlb, if_pos s282, if_pos s282, sR_l, obind, sI_ok s282, obind, setI_hk, hpI_hk', rowUp_ne (a := 101) (b := 282) _ _ (by omega), sI_ok s282, obind, setI_hk, hpI_hk', rowUp_two, rowUp_same, obind, ← hI3, ← hσa]
  -- a run of the expression against any model that has begun
  have run : ∀ {τ : Sg} {J M}, PMk J M X n 0 → J 435 1 = nI (T 1) → J 435 6 = 0 → J 435 7 = 0 → (∀ f, f < 8 → M 437 f = L 436 f) → ∃ T0 : Nat → Nat, T0 6 = 0 ∧ T0 7 = 0 ∧ ((∃ I' J' M' i' T', mX2_readEither 40 282 (0 : Int32) (hk σa I3 L) = some (1, hk σa I' L) ∧ mX12_expr 433 (hk τ J M) = some (nI (T0 6), hk τ J' M') ∧ PE I' J' M' X n m i' la (T 7) (updA W 13 [1]) (T 1) 0 T' 0 ∧ T' (84 + T0 6) = T0 7 ∧ T' (117 + T0 6) = T' 7 ∧ RG (T 1) (cT T') (T0 7) (T' 7) 0 1 ∧ CF3 la I3 I' ∧ MX J M J' M') ∨
      (∃ fl pl I' J' M', mX2_readEither 40 282 (0 : Int32) (hk σa I3 L) = some (0, hk σa I' L) ∧ mX12_expr 433 (hk τ J M) = some (nI (T0 6), hk τ J' M') ∧ CFl I' fl pl ∧ CF3 la I3 I' ∧ MFl J' fl pl ∧ MX J M J' M')) := by
    intro τ J M pm j1 j6 j7 mn
    obtain ⟨T1, hT1⟩ : ∃ T1 : Nat → Nat, ∀ j, J 435 j = nI (T1 j) := ⟨fun j => Classical.choose (wb_of32 (J 435 j)), fun j => (Classical.choose_spec (wb_of32 (J 435 j))).2⟩
    obtain ⟨T0, hT0⟩ : ∃ T0, T0 = updA (updA (updA T1 1 (T 1)) 6 0) 7 0 := ⟨_, rfl⟩
    have t6 : T0 6 = 0 := by rw [hT0]; rfl
    have t7 : T0 7 = 0 := by rw [hT0]; rfl
    have rT : rTd J T0 := fun j _ => by
      rw [hT0, updA_at, updA_at, updA_at]
      by_cases q7 : j = 7
      · rw [if_pos q7, q7, j7]; rfl
      · rw [if_neg q7]
        by_cases q6 : j = 6
        · rw [if_pos q6, q6, j6]; rfl
        · rw [if_neg q6]
          by_cases q1 : j = 1
          · rw [if_pos q1, q1, j1]
          · rw [if_neg q1]; exact hT1 j
    obtain ⟨dp, _, hdp⟩ := wb_of32 (J 433 16)
    have nW : ¬ updA W 13 [1] 13 = [] := by rw [updA_same]; decide
    have wf : ∀ f, f < 8 → updA W 13 [1] f = W f := fun f hf => updA_ne _ _ (by omega)
    have pe : PE I3 J M X n m 0 la (T 7) (updA W 13 [1]) (T 1) 0 T0 dp := ⟨pc, pm, ⟨h1, by omega, by rw [i3 la (by omega) (by omega) (by omega)]; exact hCL.1.2.1, fun z => absurd z nW, fun f hf => by rw [wf f (by omega), i3 (la + 2) (by omega) (by omega) (by omega)]; exact ⟨(hN f hf).1, (hN f hf).2.1⟩, fun z => absurd z nW⟩, ⟨h1, by omega, j1, fun z => absurd z nW, fun f hf => by rw [wf f (by omega), mn f (by omega)]; exact ⟨(hN f hf).1, (hN f hf).2.2⟩, fun z => absurd z nW⟩, rT, ⟨by rw [t7, Nat.add_zero]; exact l13, fun j hj => by rw [t7] at hj; exact absurd hj (Nat.not_lt_zero _)⟩, by rw [t7]; exact Nat.le_refl _, hdp⟩
    refine ⟨T0, t6, t7, ?_⟩
    rcases expr_ok (σ := σa) (τ := τ) (L := L) ga bg h7 pe (by rw [t6]; omega) with ⟨I', J', M', i', T', e1, e2, p, _, _, _, a84, a117, _, rg, f, g⟩ | ⟨fl, pl, I', J', M', T', e1, e2, c, f, b, g, _, _⟩
    · exact Or.inl ⟨I', J', M', i', T', e1, e2, p, a84, a117, rg, f, g⟩
    · exact Or.inr ⟨fl, pl, I', J', M', e1, e2, c, f, b, g⟩
  -- what is left of the class's heap
  have iy : ∀ {I'}, CF3 la I3 I' → ∀ x, x ≠ 282 → x ≠ la → x ≠ la + 7 → x ≠ 101 → (x < 103 ∨ 106 < x) → I' x = I x := fun {I'} f x a b c d e => by rw [f.1 x a b c, i3 x d a e]
  have ik : ∀ {I'}, CF3 la I3 I' → ∀ k, k ≠ 13 → I' la k = I la k := fun {I'} f k hk' => by rw [f.2.1 k hk', i3 la (by omega) (by omega) (by omega)]
  have ij : ∀ {I'}, CF3 la I3 I' → ∀ j, j < T 7 → I' (la + 7) j = I (la + 7) j := fun {I'} f j hj => by
    obtain ⟨b, _, _, _, g⟩ := f.2.2 (T 7) (by omega) l13
    rw [g j hj, i3 (la + 7) (by omega) (by omega) (by omega)]
  -- how a fault ends
  have bad : ∀ {I' : Nat → Nat → Int32} {fl' pl' : Nat}, CF3 la I3 I' → CFl I' fl' pl' → mX11_ask 100 (hk σ I L) = some (-1, hk σa (rowUp I' la (updA (I' la) 13 (nI (T 7)))) L) →
      (∀ {J M : _}, PMk J M X n 0 → J 435 1 = nI (T 1) → J 435 6 = 0 → J 435 7 = 0 → (∀ f, f < 8 → M 437 f = L 436 f) → ∃ J' M' J'', mAskE (hk σa J M) = some (-1, hk σa J'' M') ∧ MFl J' fl' pl' ∧ MFr J M J' M' ∧ J'' 433 19 = nI fl' ∧ J'' 433 20 = nI pl' ∧ (∀ x, x ≠ 433 → J'' x = J' x) ∧ ∀ k, k ≠ 19 → k ≠ 20 → J'' 433 k = J' 433 k) → LW σ S (mX11_ask 100 (hk σ I L)) (fun hp => mX12_ask 433 hp) := by
    intro I' fl' pl' f cf cls mdl
    obtain ⟨I4, hI4⟩ : ∃ I4, I4 = rowUp I' la (updA (I' la) 13 (nI (T 7))) := ⟨_, rfl⟩
    rw [← hI4] at cls
    have i4 : ∀ x, x ≠ 282 → x ≠ la + 7 → x ≠ 101 → (x < 103 ∨ 106 < x) → I4 x = I x := fun x a b c d => by
      by_cases q : x = la
      · rw [q, hI4, rowUp_same]
        funext k
        rw [updA_at]
        by_cases q2 : k = 13
        · rw [if_pos q2, q2]; exact hCL.1.2.2.2.2.2.symm
        · rw [if_neg q2]; exact ik f k q2
      · rw [hI4, rowUp_ne _ _ q]; exact iy f x a q b c d
    have i47 : ∀ j, j < T 7 → I4 (la + 7) j = I (la + 7) j := fun j hj => by rw [hI4, rowUp_ne _ _ (by omega)]; exact ij f j hj
    have y433 : I4 433 = I 433 := i4 433 (by omega) (by omega) (by omega) (by omega)
    obtain ⟨J2, M2, md, p2, j1, j6, j7, mn, v2, jx, jk, mx, mk⟩ := mask_ok (σ := σa) (J := I4) (M := L) (X := X) (n := n) (t := T 1) hX.1 (by rw [y433]; exact hX.2.2.1) (fun i hi => ⟨(hX.2.2.2 i hi).1, by rw [i4 442 (by omega) (by omega) (by omega) (by omega)]; exact (hX.2.2.2 i hi).2.2⟩) (by rw [i4 434 (by omega) (by omega) (by omega) (by omega)]; exact hB.2.1.1 1 (by omega))
    obtain ⟨J3, M3, J4, em, bf, mf, b19, b20, bx, bk⟩ := mdl p2 j1 j6 j7 mn
    have xx : ∀ x, x ≠ 433 → x ≠ 435 → x ≠ 437 → x ≠ 443 → J4 x = I4 x ∧ M3 x = L x := fun x a b c d => by
      have := mf.1 x a b c d
      rw [bx x a, this.1, this.2, jx x a b, mx x a c]
      exact ⟨rfl, rfl⟩
    have x433 : ∀ k, (k < 10 ∨ 20 < k) → k ≠ 22 → J4 433 k = I 433 k := fun k a b => by rw [bk k (by omega) (by omega), mf.2.1 k (by omega) b, jk k (by omega), y433]
    have l433 : ∀ k, k ≠ 21 → M3 433 k = L 433 k := fun k a => by rw [mf.2.2.1 k a, mk k a]
    have kl : ∀ x, x ≠ 433 → x ≠ 435 → x ≠ 437 → x ≠ 443 → x ≠ 282 → x ≠ la + 7 → x ≠ 101 → (x < 103 ∨ 106 < x) → J4 x = I x ∧ M3 x = L x := fun x a b c d e f g h => by
      obtain ⟨q1, q2⟩ := xx x a b c d
      rw [q1, q2, i4 x e f g h]
      exact ⟨rfl, rfl⟩
    refine ⟨-1, σa, I4, L, J4, M3, cls, md _ em, ⟨gf.2.2.2.2, by rw [i4 1 (by omega) (by omega) (by omega) (by omega)]; exact hS1⟩, T, N, a, P, K, Q, X, 0, fl', pl', W, ?_, ?_, hB.su3 (by rw [gf.1, hlb]) gf.2.2.1 (fun x hx h => ?_) (fun x hx => ?_) ?_ (x433 8 (by omega) (by omega)), ⟨Nat.zero_le _, ?_, ?_, fun i hi => absurd hi (Nat.not_lt_zero _)⟩, ⟨cf.2.1, cf.2.2.1, ?_, b19, fun z => by have := cf.1; omega, fun _ => ⟨?_, b20⟩⟩, ?_, ?_, fun w hw => ?_⟩
    · unfold SG
      rw [gf.1, gf.2.1, gf.2.2.1, gf.2.2.2.1]
      exact ⟨ga, gb, gne, sa1, sa2, sb1, sb2, sne⟩
    · rw [(kl 1 (by omega) (by omega) (by omega) (by omega) (by omega) (by omega) (by omega) (by omega)).1]; exact hS1
    · rw [← hlb] at h
      unfold Kp at hx
      rw [← hlb] at hx
      exact (kl x (by omega) (by omega) (by omega) (by omega) (by omega) (by omega) (by omega) (by omega)).1
    · unfold Kp at hx
      rw [← hlb] at hx
      exact (xx x (by omega) (by omega) (by omega) (by omega)).2
    · rw [← hlb]
      intro j hj
      rw [(xx (la + 7) (by omega) (by omega) (by omega) (by omega)).1]
      exact i47 j hj
    · rw [(xx 101 (by omega) (by omega) (by omega) (by omega)).1, hI4, rowUp_ne _ _ (by omega), f.1 101 (by omega) (by omega) (by omega), i101]; rfl
    · rw [bk 10 (by omega) (by omega), mf.2.1 10 (by omega) (by omega), v2]; rfl
    · rw [(xx 282 (by omega) (by omega) (by omega) (by omega)).1, hI4, rowUp_ne _ _ (by omega)]; exact cf.2.2.2.1
    · rw [(xx 282 (by omega) (by omega) (by omega) (by omega)).1, hI4, rowUp_ne _ _ (by omega)]; exact cf.2.2.2.2
    · unfold AS
      rw [x433 39 (by omega) (by omega), (xx 100 (by omega) (by omega) (by omega) (by omega)).2, l433 40 (by omega), l433 41 (by omega)]
      exact hA
    · rw [gf.1]
      intro f hf
      rw [(kl (la + 2) (by omega) (by omega) (by omega) (by omega) (by omega) (by omega) (by omega) (by omega)).1, (xx 436 (by omega) (by omega) (by omega) (by omega)).2]
      exact hN f hf
    · rw [(kl 107 (by omega) (by omega) (by omega) (by omega) (by omega) (by omega) (by omega) (by omega)).1]; exact hR w hw
  obtain ⟨J0, M0, _, p0, j01, j06, j07, mn0, _⟩ := mask_ok (σ := σ) (J := I) (M := L) (X := X) (n := n) (t := T 1) hX.1 hX.2.2.1 (fun i hi => ⟨(hX.2.2.2 i hi).1, (hX.2.2.2 i hi).2.2⟩) (hB.2.1.1 1 (by omega))
  obtain ⟨T0, _, t0z, hr⟩ := run (τ := σa) p0 j01 j06 j07 mn0
  rcases hr with ⟨I', J1, M1, i', T', e1, _, p, _, _, rg, f, _⟩ | ⟨fl', pl', I', J1, M1, e1, _, c, f, _, _⟩
  · have i480 := p.1.le.2
    have hlt2 := ck_lt X n (pz X n i')
    have t7i := p.2.2.2.2.2.2.1
    by_cases hck : ck X n (pz X n i') = 0
    · -- it is answered
      obtain ⟨I2, hI2⟩ : ∃ I2, I2 = rowUp I' 282 (updA (I' 282) 5 (nI (i' + 1))) := ⟨_, rfl⟩
      obtain ⟨I4, hI4⟩ : ∃ I4, I4 = rowUp I2 la (updA (I2 la) 13 (nI (T 7))) := ⟨_, rfl⟩
      have i2 : ∀ x, x ≠ 282 → I2 x = I' x := fun x hx => by rw [hI2, rowUp_ne _ _ hx]
      have i4 : ∀ x, x ≠ 282 → x ≠ la + 7 → x ≠ 101 → (x < 103 ∨ 106 < x) → I4 x = I x := fun x a b c d => by
        by_cases q : x = la
        · rw [q, hI4, rowUp_same]
          funext k
          rw [updA_at]
          by_cases q2 : k = 13
          · rw [if_pos q2, q2]; exact hCL.1.2.2.2.2.2.symm
          · rw [if_neg q2, i2 la (by omega)]; exact ik f k q2
        · rw [hI4, rowUp_ne _ _ q, i2 x a]; exact iy f x a q b c d
      have i47 : I4 (la + 7) = I' (la + 7) := by rw [hI4, rowUp_ne _ _ (by omega), i2 _ (by omega)]
      have hB4 : BI σa I4 L T N a P K Q := hB.su3 (by rw [gf.1, hlb]) gf.2.2.1 (fun x hx h => by
        rw [← hlb] at h
        unfold Kp at hx
        rw [← hlb] at hx
        exact i4 x (by omega) (by omega) (by omega) (by omega)) (fun x _ => rfl) (by
        rw [← hlb]
        intro j hj
        rw [i47]; exact ij f j hj) (by rw [i4 433 (by omega) (by omega) (by omega) (by omega)])
      have cls0 : mX11_ask 100 (hk σ I L) = cRest (nI (T 7)) (I' la 13) (hk σa I4 L) := by
        have ex : mX2_expect 282 (0 : Int32) (hk σa I' L) = some (1, hk σa I2 L) := by
          unfold mX2_expect
          rw [if_pos s282, nextKind_ok p.1, obind, hck, if_pos (show nI 0 = (0 : Int32) from rfl), gPI, obind, p.1.2.2.2.2.2.1, sI_ok s282, obind, setI_hk, hpI_hk', nI_1, ← hI2]
        rw [pre, e1, b2s, if_neg (show ¬ (1 : Int32) = 0 by decide), ex, b2s, if_neg (show ¬ (1 : Int32) = 0 by decide), b2s, e3, obind, gI_la ga, obind, obind, sI_la ga, obind, if_neg (show ¬ (1 : Int32) = 0 by decide), ← hI4, i2 la (by omega)]
      -- what the class works out of a code that it has read
      have ca : ∀ {J M i'' T''}, PE I' J M X n m i'' la (T 7) (updA W 13 [1]) (T 1) 0 T'' 0 → RG (T 1) (cT T'') 0 (T'' 7) 0 1 → _ := fun {J M i'' T''} p rg => cask_ok (σ := σa) (I := I4) (L := L) (t7 := T'' 7) (cd := cT T'') hB4.1 (fun j hj => by
        rw [gf.1, i47]
        exact p.2.2.2.2.2.1.2 j hj) rg.wf (by have := p.2.2.2.2.2.2.1; have := p.1.le.2; omega)
      have z13 : ∀ {J M i'' T''}, PE I' J M X n m i'' la (T 7) (updA W 13 [1]) (T 1) 0 T'' 0 → I' la 13 = nI (T 7 + T'' 7) := fun p => p.2.2.2.2.2.1.1
      rw [t0z] at rg
      obtain ⟨hh, L2, g, _, ce, _, _, lf, _⟩ := ca p rg
      have cls1 : cRest (nI (T 7)) (I' la 13) (hk σa I4 L) = some (how3 (lft T N) (fA (cT T') (T' 7)), hk σa (rowUp I4 108 hh) L2) := by rw [z13 p]; unfold cRest; exact ce
      obtain ⟨I5, hI5⟩ : ∃ I5, I5 = rowUp I4 108 hh := ⟨_, rfl⟩
      have i5 : ∀ x, x ≠ 282 → x ≠ la + 7 → x ≠ 101 → x ≠ 108 → (x < 103 ∨ 106 < x) → I5 x = I x := fun x a b c d e => by rw [hI5, rowUp_ne _ _ d, i4 x a b c e]
      obtain ⟨J2, M2, md, p2, j1, j6, j7, mn, v2, jx, jk, mx, mk⟩ := mask_ok (σ := σa) (J := I5) (M := L2) (X := X) (n := n) (t := T 1) hX.1 (by rw [i5 433 (by omega) (by omega) (by omega) (by omega) (by omega)]; exact hX.2.2.1) (fun i hi => ⟨(hX.2.2.2 i hi).1, by rw [i5 442 (by omega) (by omega) (by omega) (by omega) (by omega)]; exact (hX.2.2.2 i hi).2.2⟩) (by rw [i5 434 (by omega) (by omega) (by omega) (by omega) (by omega)]; exact hB.2.1.1 1 (by omega))
      obtain ⟨T1, t16, t17, hr'⟩ := run (τ := σa) p2 j1 j6 j7 (fun f hf => by rw [mn f hf, lf 436 (by omega) (by omega) (by omega) (by omega)])
      rcases hr' with ⟨I'', J3, M3, i'', T'', d1, d2, d3, d84, d117, drg, d5, d6⟩ | ⟨fl'', pl'', I'', J3, M3, d1, _⟩
      · obtain ⟨_, rfl, _⟩ := hk_inj (e1.symm.trans d1)
        rw [t17] at drg
        rw [t16, t17] at d84
        rw [t16] at d117
        obtain ⟨hh', L2', g', hg', ce', l16, l17, lf', ht'⟩ := ca d3 drg
        have cls2 : cRest (nI (T 7)) (I' la 13) (hk σa I4 L) = some (how3 (lft T N) (fA (cT T'') (T'' 7)), hk σa (rowUp I4 108 hh') L2') := by rw [z13 d3]; unfold cRest; exact ce'
        obtain ⟨hv, hh5, rfl⟩ := hk_inj (cls1.symm.trans cls2)
        have ei : i'' = i' := by
          have q1 := d3.1.2.2.2.2.2.1
          have q2 := p.1.2.2.2.2.2.1
          have := d3.1.le.2
          exact (nI_eq (by omega) (by omega)).mp (q1.symm.trans q2)
        subst ei
        have xx0 : ∀ x, x ≠ 433 → x ≠ 435 → x ≠ 437 → x ≠ 443 → J3 x = I5 x ∧ M3 x = L2 x := fun x a b c d => by
          have := d6.1.1 x a b c d
          rw [this.1, this.2, jx x a b, mx x a c]
          exact ⟨rfl, rfl⟩
        have t7b := d3.2.2.2.2.2.2.1
        have rT := d3.2.2.2.2.1
        obtain ⟨J4, M4, b4, b19, b20, b39, b40, b41, bx, bk, bl⟩ := mrest_ok (σ := σa) (J := J3) (M := M3) (N := N) (T := T) (t7 := T'' 7) (cd := cT T'') (g := g') (hB.2.1.fw fun x hx => by rw [(xx0 x (by omega) (by omega) (by omega) (by omega)).1, i5 x (by omega) (by omega) (by omega) (by omega) (by omega)]) d3.2.1.2.2 (by rw [rT 84 (by omega)]; exact congrArg nI d84) (by rw [rT 117 (by omega)]; exact congrArg nI d117) (fun j hj => rT (150 + j) (by omega)) drg.wf (by omega) ht'
        have em : mAskE (hk σa J2 M2) = some (how3 (lft T N) (fA (cT T'') (T'' 7)), hk σa J4 M4) := by
          unfold mAskE
          rw [d2, b2s, gMI, obind, d3.2.1.2.1.2.2.1, (mtk0 X n (pz X n i'')).1.mpr hck, if_pos (show nI 0 = (0 : Int32) from rfl), b4]
        have xx : ∀ x, x ≠ 433 → x ≠ 435 → x ≠ 437 → x ≠ 443 → J4 x = I5 x ∧ M4 x = L2 x := fun x a b c d => by
          rw [bx x a d, bl x a]; exact xx0 x a b c d
        have x433 : ∀ k, (k < 10 ∨ 20 < k) → k ≠ 22 → k ≠ 39 → J4 433 k = I 433 k := fun k a b c => by rw [bk k (by omega) (by omega) c, d6.1.2.1 k (by omega) b, jk k (by omega), i5 433 (by omega) (by omega) (by omega) (by omega) (by omega)]
        have kl : ∀ x, x ≠ 433 → x ≠ 435 → x ≠ 437 → x ≠ 443 → x ≠ 282 → x ≠ la + 7 → x ≠ 101 → x ≠ 108 → (x < 103 ∨ 106 < x) → J4 x = I x := fun x a b c d e f g k h => by rw [(xx x a b c d).1, i5 x e f g k h]
        have ll : ∀ x, x ≠ 433 → x ≠ 435 → x ≠ 437 → x ≠ 443 → x ≠ 100 → (x < 108 ∨ 111 < x) → x ≠ 415 → x ≠ 419 → M4 x = L x := fun x a b c d e f g h => by rw [(xx x a b c d).2, lf x e f g h]
        have l100 : M4 100 = L2 100 := (xx 100 (by omega) (by omega) (by omega) (by omega)).2
        have b1 := sm_b hW (lft T N) (n := 256) (Nat.le_refl _)
        refine ⟨how3 (lft T N) (fA (cT T'') (T'' 7)), σa, I5, L2, J4, M4, by rw [cls0, cls1, hv, hI5], md _ em, ⟨gf.2.2.2.2, by rw [i5 1 (by omega) (by omega) (by omega) (by omega) (by omega)]; exact hS1⟩, T, N, a, P, K, Q, X, 0, 0, 0, W, ?_, ?_, hB.su3 (by rw [gf.1, hlb]) gf.2.2.1 (fun x hx h => ?_) (fun x hx => ?_) ?_ (x433 8 (by omega) (by omega) (by omega)), ⟨Nat.zero_le _, ?_, ?_, fun i hi => absurd hi (Nat.not_lt_zero _)⟩, ⟨Nat.zero_le _, Nat.zero_le _, ?_, b19, fun _ => b20, fun z => absurd rfl z⟩, Or.inr ⟨b39, ?_, ?_, ?_⟩, ?_, fun w hw => ?_⟩
        · unfold SG
          rw [gf.1, gf.2.1, gf.2.2.1, gf.2.2.2.1]
          exact ⟨ga, gb, gne, sa1, sa2, sb1, sb2, sne⟩
        · rw [kl 1 (by omega) (by omega) (by omega) (by omega) (by omega) (by omega) (by omega) (by omega) (by omega)]; exact hS1
        · rw [← hlb] at h
          unfold Kp at hx
          rw [← hlb] at hx
          exact kl x (by omega) (by omega) (by omega) (by omega) (by omega) (by omega) (by omega) (by omega) (by omega)
        · unfold Kp at hx
          rw [← hlb] at hx
          exact ll x (by omega) (by omega) (by omega) (by omega) (by omega) (by omega) (by omega) (by omega)
        · rw [← hlb]
          intro j hj
          rw [(xx (la + 7) (by omega) (by omega) (by omega) (by omega)).1, hI5, rowUp_ne _ _ (by omega), i47]
          exact ij f j hj
        · rw [(xx 101 (by omega) (by omega) (by omega) (by omega)).1, hI5, rowUp_ne _ _ (by omega), hI4, rowUp_ne _ _ (by omega), i2 101 (by omega), f.1 101 (by omega) (by omega) (by omega), i101]; rfl
        · rw [bk 10 (by omega) (by omega) (by omega), d6.1.2.1 10 (by omega) (by omega), v2]; rfl
        · rw [(xx 282 (by omega) (by omega) (by omega) (by omega)).1, hI5, rowUp_ne _ _ (by omega), hI4, rowUp_ne _ _ (by omega), hI2, rowUp_same, updA_ne _ _ (by omega)]; exact p.1.1.2
        · rw [b40, l100, l16]
        · rw [b41, l100, l17]
        · rw [l100, l17]
          intro z
          have hd : sm (wg T) (lft T N) 256 / g' ≤ sm (wg T) (lft T N) 256 := Nat.div_le_self _ _
          have h0 := (lN_0 (show sm (wg T) (lft T N) 256 / g' < 2 ^ 62 by omega)).mp z
          have := Nat.div_pos hg'.2 hg'.1
          omega
        · rw [gf.1]
          intro f hf
          rw [kl (la + 2) (by omega) (by omega) (by omega) (by omega) (by omega) (by omega) (by omega) (by omega) (by omega), ll 436 (by omega) (by omega) (by omega) (by omega) (by omega) (by omega) (by omega) (by omega)]
          exact hN f hf
        · rw [kl 107 (by omega) (by omega) (by omega) (by omega) (by omega) (by omega) (by omega) (by omega) (by omega)]; exact hR w hw
      · exact absurd (hk_inj (e1.symm.trans d1)).1 (by decide)
    · -- more stands behind it
      obtain ⟨I2, e2, c2, d2⟩ := fail_b2 (σ := σa) (L := L) p.1 (f := 1) (by omega) (by omega)
      refine bad (f.tr (d2.c3 ga)) c2 ?_ (fun {J M} pm j1 j6 j7 mn => ?_)
      · have ex : mX2_expect 282 (0 : Int32) (hk σa I' L) = some (0, hk σa I2 L) := by
          unfold mX2_expect
          rw [if_pos s282, nextKind_ok p.1, obind, c_0 (by omega), if_neg hck]
          exact e2
        rw [pre, e1, b2s, if_neg (show ¬ (1 : Int32) = 0 by decide), ex, b2s, if_pos rfl, b2s, e3, obind, gI_la ga, obind, obind, sI_la ga, obind, if_pos rfl]
      · obtain ⟨T1, _, _, hr'⟩ := run (τ := σa) pm j1 j6 j7 mn
        rcases hr' with ⟨I'', J3, M3, i'', T'', d1, d2', d3, _, _, _, _, d6⟩ | ⟨fl'', pl'', I'', J3, M3, d1, _⟩
        · obtain ⟨_, rfl, _⟩ := hk_inj (e1.symm.trans d1)
          have ei : i'' = i' := by
            have q1 := d3.1.2.2.2.2.2.1
            have q2 := p.1.2.2.2.2.2.1
            have := d3.1.le.2
            exact (nI_eq (by omega) (by omega)).mp (q1.symm.trans q2)
          subst ei
          obtain ⟨u, w1, w2, w3⟩ := wrong_ok (σ := σa) d3.2.1 (f := 1) (by omega) (by omega)
          have w1 : mX12_wrong 433 (1 : Int32) (hk σa J3 M3) = some (hk σa (rowUp J3 433 u) M3) := w1
          have w2 : MFl (rowUp J3 433 u) 1 (pz X n i'') := by simpa using w2
          obtain ⟨J4, b4, b19, b20, bx, bk⟩ := ab75_bad (σ := σa) (M := M3) w2
          have m0 : mtk X n (pz X n i'') ≠ 0 := fun z => hck ((mtk0 X n (pz X n i'')).1.mp z)
          have m100 := (mtk0 X n (pz X n i'')).2
          refine ⟨_, M3, J4, ?_, w2, d6.1.tr w3.1, b19, b20, bx, bk⟩
          unfold mAskE
          rw [d2', b2s, gMI, obind, d3.2.1.2.1.2.2.1, c_0 (by omega), if_neg m0, w1, obind, b4]
        · exact absurd (hk_inj (e1.symm.trans d1)).1 (by decide)
  · refine bad f c ?_ (fun {J M} pm j1 j6 j7 mn => ?_)
    · rw [pre, e1, b2s, if_pos rfl, b2s, e3, obind, gI_la ga, obind, obind, sI_la ga, obind, if_pos rfl]
    · obtain ⟨T0', _, _, hr'⟩ := run (τ := σa) pm j1 j6 j7 mn
      rcases hr' with ⟨I'', J3, M3, i'', T'', d1, _⟩ | ⟨fl'', pl'', I'', J3, M3, d1, d2, d3, d4, d5, d6⟩
      · exact absurd (hk_inj (e1.symm.trans d1)).1 (by decide)
      · obtain ⟨_, rfl, _⟩ := hk_inj (e1.symm.trans d1)
        have ef : fl'' = fl' ∧ pl'' = pl' := ⟨(nI_eq (by have := d3.2.1; omega) (by have := c.2.1; omega)).mp (d3.2.2.2.1.symm.trans c.2.2.2.1), (nI_eq (by have := d3.2.2.1; omega) (by have := c.2.2.1; omega)).mp (d3.2.2.2.2.symm.trans c.2.2.2.2)⟩
        obtain ⟨rfl, rfl⟩ := ef
        obtain ⟨J4, b4, b19, b20, bx, bk⟩ := ab75_bad (σ := σa) (M := M3) d5
        refine ⟨J3, M3, J4, ?_, d5, d6.1, b19, b20, bx, bk⟩
        unfold mAskE
        rw [d2, b2s, gMI, obind, b4, wrong_bad d5, obind, b4]
        by_cases q : J3 433 14 = 0
        · rw [if_pos q]
        · rw [if_neg q]
end QAsk
