/-! THE LAW: a call, and all of them -/
def ST (σ : Sg) (S : Nat → Int32) (i : Nat) (o : Option ((Int32 × Hp) ⊕ (Int32 × Hp))) : Prop := ∃ σ1 I1 L1, o = some (.inl (nI (i + 5), hk σ1 I1 L1)) ∧ gN σ1 = gN σ ∧ ALL σ1 I1 L1 S
section LawCalls
variable {σ σ' : Sg} {I I' J J' I1 I2 I3 I4 Ja : Nat → Nat → Int32} {L L' M M' L1 L2 : Nat → Nat → Int64} {S : Nat → Int32} {X : Nat → Nat} {n m i j fl pl a : Nat} {W : Nat → List Nat} {T T' N N' : Nat → Nat} {a' : Nat} {P P' : Nat → Nat → Nat} {K K' : Nat → Bool} {Q Q' : Nat → Nat → Nat}
theorem ldS (hS : I 1 = S) (hb : i + j < gN σ) (h31 : gN σ < 2147483648) : ldI 1 (nI i + nI j) (hk σ I L) = some (S (i + j)) := by
  rw [nI_add, ldI_ro (n := gN σ) (by rw [hpS_hk]; exact SH_1 _) hb (by omega), hpI_hk, hS]
theorem b1414_ok {x1 x2 : Nat} {h : Hp} : mL_law_b1414 1 x1 x2 (nI i) h = some (.inl (nI (i + 5), h)) := by
  unfold mL_law_b1414
  rw [show (5 : Int32) = nI 5 from rfl, nI_add]
theorem AL.fr (h : AL σ I L S T N a P K Q X n fl pl W) (hB : BI σ I2 L2 T N' a' P' K' Q') (f : Fr0 I L I2 L2) : ALL σ I2 L2 S := by
  obtain ⟨hSG, hS1, _, hX, hF, hA, hN, hR⟩ := h
  exact ⟨T, N', a', P', K', Q', X, n, fl, pl, W, hSG, by rw [(f.1 1 (by unfold KR; omega)).1]; exact hS1, hB, hX.f0 f, hF.f0 f, hA.f0 f, hN.f0 hSG.1 f, hR.f0 f⟩
theorem AL.q2 (h : AL σ I L S T N a P K Q X n fl pl W) (fC : FrC I L I1 L1) (fM : FrM I1 L1 I2 L2) : I1 1 = S ∧ ALL σ I2 L2 S :=
  ⟨by rw [(fC 1 (by unfold scC; omega)).1]; exact h.2.1, h.fr (h.2.2.1.q fC fM) (fC.f0.tr fM.f0)⟩
theorem AL.q (h : AL σ I L S T N a P K Q X n fl pl W) {cls : Option (Int32 × Hp)} {mdl : Hp → Option (Int32 × Hp)} {v : Int32} (e1 : cls = some (v, hk σ I1 L1)) (e2 : mdl (hk σ I1 L1) = some (v, hk σ I2 L2)) (fC : FrC I L I1 L1) (fM : FrM I1 L1 I2 L2) : LW σ S cls mdl :=
  ⟨v, σ, I1, L1, I2, L2, e1, e2, ⟨rfl, (h.q2 fC fM).1⟩, (h.q2 fC fM).2⟩
theorem AL.act (h : AL σ I L S T N a P K Q X n fl pl W) {cls : Option (Int32 × Hp)} {mdl : Hp → Option (Int32 × Hp)} (ar : AR σ I L T cls mdl) : LW σ S cls mdl := by
  obtain ⟨v, I1, L1, I2, L2, N', a', P', K', Q', e1, e2, b, f, f1⟩ := ar
  exact ⟨v, σ, I1, L1, I2, L2, e1, e2, ⟨rfl, by rw [f1]; exact h.2.1⟩, h.fr b f⟩
theorem AL.tx (h : AL σ I L S T N a P K Q X n fl pl W) {X' : Nat → Nat} {n' : Nat} (hT : TX I2 X' n') (fx : ∀ x, x ≠ 101 → x ≠ 102 → x ≠ 433 → x ≠ 442 → I2 x = I x) (f4 : ∀ k, k ≠ 10 → I2 433 k = I 433 k) : ALL σ I2 L S := by
  obtain ⟨hSG, hS1, hB, hX, hF, hA, hN, hR⟩ := id h
  obtain ⟨ga, gb, gne, sa1, sa2, sb1, sb2, sne⟩ := id hSG
  have hsa : gsa σ = 268 ∨ gsa σ = 275 := by unfold isSt at sa1; omega
  have hga' : gla σ = 112 ∨ gla σ = 190 := ga
  refine ⟨T, N, a, P, K, Q, X', n', fl, pl, W, hSG, by rw [fx 1 (by omega) (by omega) (by omega) (by omega)]; exact hS1, hB.su rfl rfl (fun x hx => ?_) (f4 8 (by omega)), hT, ?_, ?_, fun f hf => ?_, fun w hw => ?_⟩
  · unfold Kp at hx
    exact ⟨fx x (by omega) (by omega) (by omega) (by omega), rfl⟩
  · unfold FA
    rw [fx 282 (by omega) (by omega) (by omega) (by omega), f4 19 (by omega), f4 20 (by omega)]
    exact hF
  · unfold AS
    rw [f4 39 (by omega)]
    exact hA
  · rw [fx (gla σ + 2) (by omega) (by omega) (by omega) (by omega)]
    exact hN f hf
  · rw [fx 107 (by omega) (by omega) (by omega) (by omega)]
    exact hR w hw
theorem AL.sg (h : AL σ I L S T N a P K Q X n fl pl W) (v : Int32) : LW σ S (mX11_sign 100 v (hk σ I L)) (fun hp => mX12_sign 433 v hp) := by
  obtain ⟨w, I1, I2, X', n', e1, e2, hT, fx, f4, _, f1⟩ := q_sign (σ := σ) (L := L) h.2.2.2.1 v
  exact ⟨w, σ, I1, L, I2, L, e1, e2, ⟨rfl, by rw [f1]; exact h.2.1⟩, h.tx hT fx f4⟩
theorem AL.en (h : AL σ I L S T N a P K Q X n fl pl W) (v : Int32) : LW σ S (mX11_end 100 v (hk σ I L)) (fun hp => mX12_end 433 v hp) := by
  obtain ⟨w, I1, I2, n', e1, e2, hT, fx, f4, _, f1⟩ := q_end (σ := σ) (L := L) h.2.2.2.1 v
  exact ⟨w, σ, I1, L, I2, L, e1, e2, ⟨rfl, by rw [f1]; exact h.2.1⟩, h.tx hT fx f4⟩
theorem lc_sign (h : AL σ I L S T N a P K Q X n fl pl W) (hi : i + 5 ≤ gN σ) (h31 : gN σ < 2147483648) : ST σ S i ((ldI 1 ((nI i) + (1 : Int32)) (hk σ I L)).bind fun v11 => b2 (mX11_sign 100 v11 (hk σ I L)) fun v12 h13 => (ldI 1 ((nI i) + (1 : Int32)) h13).bind fun v14 => b2 (mX12_sign 433 v14 h13) fun v15 h16 => if v12 = v15 then (mL_law_b1414 1 100 433 (nI i) h16) else (xt (some ((0 : Int32), h16)))) := by
  obtain ⟨hSG, hS1, hB, hX, hF, hA, hN, hR⟩ := id h
  have ld : ∀ j, j < 5 → ldI 1 (nI i + nI j) (hk σ I L) = some (S (i + j)) := fun j hj => ldS hS1 (by omega) h31
  have l1 : ldI 1 (nI i + (1 : Int32)) (hk σ I L) = some (S (i + 1)) := ld 1 (by omega)
  obtain ⟨v, σ1, I1, L1, I2, L2, e1, e2, ⟨eN, eS⟩, hA⟩ := h.sg (S (i + 1))
  refine ⟨σ1, I2, L2, ?_, eN, hA⟩
  have e2 : mX12_sign 433 (S (i + 1)) (hk σ1 I1 L1) = some (v, hk σ1 I2 L2) := e2
  have m1 : ldI 1 (nI i + (1 : Int32)) (hk σ1 I1 L1) = some (S (i + 1)) := ldS (j := 1) eS (by omega) (by omega)
  rw [l1, obind, e1, b2s, m1, obind, e2, b2s, if_pos rfl, b1414_ok]
theorem lc_end (h : AL σ I L S T N a P K Q X n fl pl W) (hi : i + 5 ≤ gN σ) (h31 : gN σ < 2147483648) : ST σ S i ((ldI 1 ((nI i) + (1 : Int32)) (hk σ I L)).bind fun v17 => b2 (mX11_end 100 v17 (hk σ I L)) fun v18 h19 => (ldI 1 ((nI i) + (1 : Int32)) h19).bind fun v20 => b2 (mX12_end 433 v20 h19) fun v21 h22 => if v18 = v21 then (mL_law_b1414 1 100 433 (nI i) h22) else (xt (some ((0 : Int32), h22)))) := by
  obtain ⟨hSG, hS1, hB, hX, hF, hA, hN, hR⟩ := id h
  have ld : ∀ j, j < 5 → ldI 1 (nI i + nI j) (hk σ I L) = some (S (i + j)) := fun j hj => ldS hS1 (by omega) h31
  have l1 : ldI 1 (nI i + (1 : Int32)) (hk σ I L) = some (S (i + 1)) := ld 1 (by omega)
  obtain ⟨v, σ1, I1, L1, I2, L2, e1, e2, ⟨eN, eS⟩, hA⟩ := h.en (S (i + 1))
  refine ⟨σ1, I2, L2, ?_, eN, hA⟩
  have e2 : mX12_end 433 (S (i + 1)) (hk σ1 I1 L1) = some (v, hk σ1 I2 L2) := e2
  have m1 : ldI 1 (nI i + (1 : Int32)) (hk σ1 I1 L1) = some (S (i + 1)) := ldS (j := 1) eS (by omega) (by omega)
  rw [l1, obind, e1, b2s, m1, obind, e2, b2s, if_pos rfl, b1414_ok]
theorem lc_suit (h : AL σ I L S T N a P K Q X n fl pl W) (hi : i + 5 ≤ gN σ) (h31 : gN σ < 2147483648) : ST σ S i (b2 (mX11_suit 100 (hk σ I L)) fun v23 h24 => b2 (mX12_suit 433 h24) fun v25 h26 => if v23 = v25 then (mL_law_b1414 1 100 433 (nI i) h26) else (xt (some ((0 : Int32), h26)))) := by
  obtain ⟨hSG, hS1, hB, hX, hF, hA, hN, hR⟩ := id h
  have ld : ∀ j, j < 5 → ldI 1 (nI i + nI j) (hk σ I L) = some (S (i + j)) := fun j hj => ldS hS1 (by omega) h31
  obtain ⟨v, σ1, I1, L1, I2, L2, e1, e2, ⟨eN, eS⟩, hA⟩ := q_suit h
  refine ⟨σ1, I2, L2, ?_, eN, hA⟩
  have e2 : mX12_suit 433 (hk σ1 I1 L1) = some (v, hk σ1 I2 L2) := e2
  rw [e1, b2s, e2, b2s, if_pos rfl, b1414_ok]
theorem lc_fault (h : AL σ I L S T N a P K Q X n fl pl W) (hi : i + 5 ≤ gN σ) (h31 : gN σ < 2147483648) : ST σ S i ((ldI 1 ((nI i) + (1 : Int32)) (hk σ I L)).bind fun v27 => (mX11_fault 100 v27 (hk σ I L)).bind fun v28 => (ldI 1 ((nI i) + (1 : Int32)) (hk σ I L)).bind fun v30 => (mX12_fault 433 v30 (hk σ I L)).bind fun v31 => if v28 = v31 then (mL_law_b1414 1 100 433 (nI i) (hk σ I L)) else (xt (some ((0 : Int32), (hk σ I L))))) := by
  obtain ⟨hSG, hS1, hB, hX, hF, hA, hN, hR⟩ := id h
  have ld : ∀ j, j < 5 → ldI 1 (nI i + nI j) (hk σ I L) = some (S (i + j)) := fun j hj => ldS hS1 (by omega) h31
  have l1 : ldI 1 (nI i + (1 : Int32)) (hk σ I L) = some (S (i + 1)) := ld 1 (by omega)
  obtain ⟨v, e1, e2⟩ := q_fault hF (S (i + 1))
  refine ⟨σ, I, L, ?_, rfl, T, N, a, P, K, Q, X, n, fl, pl, W, h⟩
  rw [l1, obind, e1, obind, obind, e2, obind, if_pos rfl, b1414_ok]
theorem lc_fact (h : AL σ I L S T N a P K Q X n fl pl W) (hi : i + 5 ≤ gN σ) (h31 : gN σ < 2147483648) : ST σ S i ((ldI 1 ((nI i) + (1 : Int32)) (hk σ I L)).bind fun v33 => (ldI 1 ((nI i) + (2 : Int32)) (hk σ I L)).bind fun v34 => (mX11_fact 100 v33 v34 (hk σ I L)).bind fun v35 => (ldI 1 ((nI i) + (1 : Int32)) (hk σ I L)).bind fun v37 => (ldI 1 ((nI i) + (2 : Int32)) (hk σ I L)).bind fun v38 => (mX12_fact 433 v37 v38 (hk σ I L)).bind fun v39 => if v35 = v39 then (mL_law_b1414 1 100 433 (nI i) (hk σ I L)) else (xt (some ((0 : Int32), (hk σ I L))))) := by
  obtain ⟨hSG, hS1, hB, hX, hF, hA, hN, hR⟩ := id h
  have ld : ∀ j, j < 5 → ldI 1 (nI i + nI j) (hk σ I L) = some (S (i + j)) := fun j hj => ldS hS1 (by omega) h31
  have l1 : ldI 1 (nI i + (1 : Int32)) (hk σ I L) = some (S (i + 1)) := ld 1 (by omega)
  have l2 : ldI 1 (nI i + (2 : Int32)) (hk σ I L) = some (S (i + 2)) := ld 2 (by omega)
  obtain ⟨v, e1, e2⟩ := q_fact hB.1 hB.2.1 (S (i + 1)) (S (i + 2))
  refine ⟨σ, I, L, ?_, rfl, T, N, a, P, K, Q, X, n, fl, pl, W, h⟩
  rw [l1, obind, l2, obind, e1, obind, obind, obind, e2, obind, if_pos rfl, b1414_ok]
theorem lc_of (h : AL σ I L S T N a P K Q X n fl pl W) (hi : i + 5 ≤ gN σ) (h31 : gN σ < 2147483648) : ST σ S i ((ldI 1 ((nI i) + (1 : Int32)) (hk σ I L)).bind fun v41 => (ldI 1 ((nI i) + (2 : Int32)) (hk σ I L)).bind fun v42 => b2 (mX11_of 100 v41 v42 (hk σ I L)) fun v43 h44 => (ldI 1 ((nI i) + (1 : Int32)) h44).bind fun v45 => (ldI 1 ((nI i) + (2 : Int32)) h44).bind fun v46 => b2 (mX12_of 433 v45 v46 h44) fun v47 h48 => if v43 = v47 then (mL_law_b1414 1 100 433 (nI i) h48) else (xt (some ((0 : Int32), h48)))) := by
  obtain ⟨hSG, hS1, hB, hX, hF, hA, hN, hR⟩ := id h
  have ld : ∀ j, j < 5 → ldI 1 (nI i + nI j) (hk σ I L) = some (S (i + j)) := fun j hj => ldS hS1 (by omega) h31
  have l1 : ldI 1 (nI i + (1 : Int32)) (hk σ I L) = some (S (i + 1)) := ld 1 (by omega)
  have l2 : ldI 1 (nI i + (2 : Int32)) (hk σ I L) = some (S (i + 2)) := ld 2 (by omega)
  have key : LW σ S (mX11_of 100 (S (i + 1)) (S (i + 2)) (hk σ I L)) (fun hp => mX12_of 433 (S (i + 1)) (S (i + 2)) hp) := by
    obtain ⟨v, I1, L1, I2, e1, e2, f1, f2⟩ := q_of hB.1 hB.2.1 (S (i + 1)) (S (i + 2))
    exact h.q e1 e2 f1 f2
  obtain ⟨v, σ1, I1, L1, I2, L2, e1, e2, ⟨eN, eS⟩, hA⟩ := key
  refine ⟨σ1, I2, L2, ?_, eN, hA⟩
  have e2 : mX12_of 433 (S (i + 1)) (S (i + 2)) (hk σ1 I1 L1) = some (v, hk σ1 I2 L2) := e2
  have m1 : ldI 1 (nI i + (1 : Int32)) (hk σ1 I1 L1) = some (S (i + 1)) := ldS (j := 1) eS (by omega) (by omega)
  have m2 : ldI 1 (nI i + (2 : Int32)) (hk σ1 I1 L1) = some (S (i + 2)) := ldS (j := 2) eS (by omega) (by omega)
  rw [l1, obind, l2, obind, e1, b2s, m1, obind, m2, obind, e2, b2s, if_pos rfl, b1414_ok]
theorem lc_element (h : AL σ I L S T N a P K Q X n fl pl W) (hi : i + 5 ≤ gN σ) (h31 : gN σ < 2147483648) : ST σ S i ((ldI 1 ((nI i) + (1 : Int32)) (hk σ I L)).bind fun v49 => (ldI 1 ((nI i) + (2 : Int32)) (hk σ I L)).bind fun v50 => (ldI 1 ((nI i) + (3 : Int32)) (hk σ I L)).bind fun v51 => b2 (mX11_element 100 v49 v50 v51 (hk σ I L)) fun v52 h53 => (ldI 1 ((nI i) + (1 : Int32)) h53).bind fun v54 => (ldI 1 ((nI i) + (2 : Int32)) h53).bind fun v55 => (ldI 1 ((nI i) + (3 : Int32)) h53).bind fun v56 => b2 (mX12_element 433 v54 v55 v56 h53) fun v57 h58 => if v52 = v57 then (mL_law_b1414 1 100 433 (nI i) h58) else (xt (some ((0 : Int32), h58)))) := by
  obtain ⟨hSG, hS1, hB, hX, hF, hA, hN, hR⟩ := id h
  have ld : ∀ j, j < 5 → ldI 1 (nI i + nI j) (hk σ I L) = some (S (i + j)) := fun j hj => ldS hS1 (by omega) h31
  have l1 : ldI 1 (nI i + (1 : Int32)) (hk σ I L) = some (S (i + 1)) := ld 1 (by omega)
  have l2 : ldI 1 (nI i + (2 : Int32)) (hk σ I L) = some (S (i + 2)) := ld 2 (by omega)
  have l3 : ldI 1 (nI i + (3 : Int32)) (hk σ I L) = some (S (i + 3)) := ld 3 (by omega)
  have key : LW σ S (mX11_element 100 (S (i + 1)) (S (i + 2)) (S (i + 3)) (hk σ I L)) (fun hp => mX12_element 433 (S (i + 1)) (S (i + 2)) (S (i + 3)) hp) := by
    obtain ⟨v, I1, L1, I2, e1, e2, f1, f2⟩ := q_element hB.1 hB.2.1 (S (i + 1)) (S (i + 2)) (S (i + 3))
    exact h.q e1 e2 f1 f2
  obtain ⟨v, σ1, I1, L1, I2, L2, e1, e2, ⟨eN, eS⟩, hA⟩ := key
  refine ⟨σ1, I2, L2, ?_, eN, hA⟩
  have e2 : mX12_element 433 (S (i + 1)) (S (i + 2)) (S (i + 3)) (hk σ1 I1 L1) = some (v, hk σ1 I2 L2) := e2
  have m1 : ldI 1 (nI i + (1 : Int32)) (hk σ1 I1 L1) = some (S (i + 1)) := ldS (j := 1) eS (by omega) (by omega)
  have m2 : ldI 1 (nI i + (2 : Int32)) (hk σ1 I1 L1) = some (S (i + 2)) := ldS (j := 2) eS (by omega) (by omega)
  have m3 : ldI 1 (nI i + (3 : Int32)) (hk σ1 I1 L1) = some (S (i + 3)) := ldS (j := 3) eS (by omega) (by omega)
  rw [l1, obind, l2, obind, l3, obind, e1, b2s, m1, obind, m2, obind, m3, obind, e2, b2s, if_pos rfl, b1414_ok]
theorem lc_bar (h : AL σ I L S T N a P K Q X n fl pl W) (hi : i + 5 ≤ gN σ) (h31 : gN σ < 2147483648) : ST σ S i ((ldI 1 ((nI i) + (1 : Int32)) (hk σ I L)).bind fun v59 => (ldI 1 ((nI i) + (2 : Int32)) (hk σ I L)).bind fun v60 => (ldI 1 ((nI i) + (3 : Int32)) (hk σ I L)).bind fun v61 => b2 (mX11_bar 100 v59 v60 v61 (hk σ I L)) fun v62 h63 => (ldI 1 ((nI i) + (1 : Int32)) h63).bind fun v64 => (ldI 1 ((nI i) + (2 : Int32)) h63).bind fun v65 => (ldI 1 ((nI i) + (3 : Int32)) h63).bind fun v66 => b2 (mX12_bar 433 v64 v65 v66 h63) fun v67 h68 => if v62 = v67 then (mL_law_b1414 1 100 433 (nI i) h68) else (xt (some ((0 : Int32), h68)))) := by
  obtain ⟨hSG, hS1, hB, hX, hF, hA, hN, hR⟩ := id h
  have ld : ∀ j, j < 5 → ldI 1 (nI i + nI j) (hk σ I L) = some (S (i + j)) := fun j hj => ldS hS1 (by omega) h31
  have l1 : ldI 1 (nI i + (1 : Int32)) (hk σ I L) = some (S (i + 1)) := ld 1 (by omega)
  have l2 : ldI 1 (nI i + (2 : Int32)) (hk σ I L) = some (S (i + 2)) := ld 2 (by omega)
  have l3 : ldI 1 (nI i + (3 : Int32)) (hk σ I L) = some (S (i + 3)) := ld 3 (by omega)
  have key : LW σ S (mX11_bar 100 (S (i + 1)) (S (i + 2)) (S (i + 3)) (hk σ I L)) (fun hp => mX12_bar 433 (S (i + 1)) (S (i + 2)) (S (i + 3)) hp) := by
    obtain ⟨v, I1, L1, I2, e1, e2, f1, f2⟩ := q_bar hB.1 hB.2.1 (S (i + 1)) (S (i + 2)) (S (i + 3))
    exact h.q e1 e2 f1 f2
  obtain ⟨v, σ1, I1, L1, I2, L2, e1, e2, ⟨eN, eS⟩, hA⟩ := key
  refine ⟨σ1, I2, L2, ?_, eN, hA⟩
  have e2 : mX12_bar 433 (S (i + 1)) (S (i + 2)) (S (i + 3)) (hk σ1 I1 L1) = some (v, hk σ1 I2 L2) := e2
  have m1 : ldI 1 (nI i + (1 : Int32)) (hk σ1 I1 L1) = some (S (i + 1)) := ldS (j := 1) eS (by omega) (by omega)
  have m2 : ldI 1 (nI i + (2 : Int32)) (hk σ1 I1 L1) = some (S (i + 2)) := ldS (j := 2) eS (by omega) (by omega)
  have m3 : ldI 1 (nI i + (3 : Int32)) (hk σ1 I1 L1) = some (S (i + 3)) := ldS (j := 3) eS (by omega) (by omega)
  rw [l1, obind, l2, obind, l3, obind, e1, b2s, m1, obind, m2, obind, m3, obind, e2, b2s, if_pos rfl, b1414_ok]
theorem lc_answer (h : AL σ I L S T N a P K Q X n fl pl W) (hi : i + 5 ≤ gN σ) (h31 : gN σ < 2147483648) : ST σ S i ((ldI 1 ((nI i) + (1 : Int32)) (hk σ I L)).bind fun v69 => (ldI 1 ((nI i) + (2 : Int32)) (hk σ I L)).bind fun v70 => b2 (mX11_answer 100 v69 v70 (hk σ I L)) fun v71 h72 => (ldI 1 ((nI i) + (1 : Int32)) h72).bind fun v73 => (ldI 1 ((nI i) + (2 : Int32)) h72).bind fun v74 => b2 (mX12_answer 433 v73 v74 h72) fun v75 h76 => if v71 = v75 then (mL_law_b1414 1 100 433 (nI i) h76) else (xt (some ((0 : Int32), h76)))) := by
  obtain ⟨hSG, hS1, hB, hX, hF, hA, hN, hR⟩ := id h
  have ld : ∀ j, j < 5 → ldI 1 (nI i + nI j) (hk σ I L) = some (S (i + j)) := fun j hj => ldS hS1 (by omega) h31
  have l1 : ldI 1 (nI i + (1 : Int32)) (hk σ I L) = some (S (i + 1)) := ld 1 (by omega)
  have l2 : ldI 1 (nI i + (2 : Int32)) (hk σ I L) = some (S (i + 2)) := ld 2 (by omega)
  obtain ⟨v, σ1, I1, L1, I2, L2, e1, e2, ⟨eN, eS⟩, hA⟩ := h.act (q_answer hB (S (i + 1)) (S (i + 2)))
  refine ⟨σ1, I2, L2, ?_, eN, hA⟩
  have e2 : mX12_answer 433 (S (i + 1)) (S (i + 2)) (hk σ1 I1 L1) = some (v, hk σ1 I2 L2) := e2
  have m1 : ldI 1 (nI i + (1 : Int32)) (hk σ1 I1 L1) = some (S (i + 1)) := ldS (j := 1) eS (by omega) (by omega)
  have m2 : ldI 1 (nI i + (2 : Int32)) (hk σ1 I1 L1) = some (S (i + 2)) := ldS (j := 2) eS (by omega) (by omega)
  rw [l1, obind, l2, obind, e1, b2s, m1, obind, m2, obind, e2, b2s, if_pos rfl, b1414_ok]
theorem lc_withdraw (h : AL σ I L S T N a P K Q X n fl pl W) (hi : i + 5 ≤ gN σ) (h31 : gN σ < 2147483648) : ST σ S i ((ldI 1 ((nI i) + (1 : Int32)) (hk σ I L)).bind fun v77 => b2 (mX11_withdraw 100 v77 (hk σ I L)) fun v78 h79 => (ldI 1 ((nI i) + (1 : Int32)) h79).bind fun v80 => b2 (mX12_withdraw 433 v80 h79) fun v81 h82 => if v78 = v81 then (mL_law_b1414 1 100 433 (nI i) h82) else (xt (some ((0 : Int32), h82)))) := by
  obtain ⟨hSG, hS1, hB, hX, hF, hA, hN, hR⟩ := id h
  have ld : ∀ j, j < 5 → ldI 1 (nI i + nI j) (hk σ I L) = some (S (i + j)) := fun j hj => ldS hS1 (by omega) h31
  have l1 : ldI 1 (nI i + (1 : Int32)) (hk σ I L) = some (S (i + 1)) := ld 1 (by omega)
  obtain ⟨v, σ1, I1, L1, I2, L2, e1, e2, ⟨eN, eS⟩, hA⟩ := h.act (q_withdraw hB (S (i + 1)))
  refine ⟨σ1, I2, L2, ?_, eN, hA⟩
  have e2 : mX12_withdraw 433 (S (i + 1)) (hk σ1 I1 L1) = some (v, hk σ1 I2 L2) := e2
  have m1 : ldI 1 (nI i + (1 : Int32)) (hk σ1 I1 L1) = some (S (i + 1)) := ldS (j := 1) eS (by omega) (by omega)
  rw [l1, obind, e1, b2s, m1, obind, e2, b2s, if_pos rfl, b1414_ok]
theorem lc_close (h : AL σ I L S T N a P K Q X n fl pl W) (hi : i + 5 ≤ gN σ) (h31 : gN σ < 2147483648) : ST σ S i (b2 (mX11_close 100 (hk σ I L)) fun v83 h84 => b2 (mX12_close 433 h84) fun v85 h86 => if v83 = v85 then (mL_law_b1414 1 100 433 (nI i) h86) else (xt (some ((0 : Int32), h86)))) := by
  obtain ⟨hSG, hS1, hB, hX, hF, hA, hN, hR⟩ := id h
  have ld : ∀ j, j < 5 → ldI 1 (nI i + nI j) (hk σ I L) = some (S (i + j)) := fun j hj => ldS hS1 (by omega) h31
  obtain ⟨v, σ1, I1, L1, I2, L2, e1, e2, ⟨eN, eS⟩, hA⟩ := h.act (q_close hB)
  refine ⟨σ1, I2, L2, ?_, eN, hA⟩
  have e2 : mX12_close 433 (hk σ1 I1 L1) = some (v, hk σ1 I2 L2) := e2
  rw [e1, b2s, e2, b2s, if_pos rfl, b1414_ok]
theorem lc_find (h : AL σ I L S T N a P K Q X n fl pl W) (hi : i + 5 ≤ gN σ) (h31 : gN σ < 2147483648) : ST σ S i ((ldI 1 ((nI i) + (1 : Int32)) (hk σ I L)).bind fun v87 => (ldI 1 ((nI i) + (2 : Int32)) (hk σ I L)).bind fun v88 => if v88 = 0 then (mL_law_b534 1 100 433 (nI i) 100 v87 (0 : Int32) (hk σ I L)) else (mL_law_b534 1 100 433 (nI i) 100 v87 (1 : Int32) (hk σ I L))) := by
  obtain ⟨hSG, hS1, hB, hX, hF, hA, hN, hR⟩ := id h
  have ld : ∀ j, j < 5 → ldI 1 (nI i + nI j) (hk σ I L) = some (S (i + j)) := fun j hj => ldS hS1 (by omega) h31
  have key : ∀ b : Bool, LW σ S (mX11_find 100 (S (i + 1)) (bI b) (hk σ I L)) (fun hp => mX12_find 433 (S (i + 1)) (bI b) hp) := fun b => h.act (q_find hB (S (i + 1)) b)
  have fin : ∀ b : Bool, (if S (i + 2) = 0 then (0 : Int32) else 1) = bI b → ST σ S i (mL_law_b534 1 100 433 (nI i) 100 (S (i + 1)) (bI b) (hk σ I L)) := fun b hb => by
    obtain ⟨v, σ1, I1, L1, I2, L2, e1, e2, ⟨eN, eS⟩, hA⟩ := key b
    refine ⟨σ1, I2, L2, ?_, eN, hA⟩
    have e2 : mX12_find 433 (S (i + 1)) (bI b) (hk σ1 I1 L1) = some (v, hk σ1 I2 L2) := e2
    have m1 : ldI 1 (nI i + (1 : Int32)) (hk σ1 I1 L1) = some (S (i + 1)) := ldS (j := 1) eS (by omega) (by omega)
    have m2 : ldI 1 (nI i + (2 : Int32)) (hk σ1 I1 L1) = some (S (i + 2)) := ldS (j := 2) eS (by omega) (by omega)
    have e3 : mL_law_b556 1 100 433 (nI i) v 433 (S (i + 1)) (bI b) (hk σ1 I1 L1) = some (.inl (nI (i + 5), hk σ1 I2 L2)) := by
      unfold mL_law_b556
      rw [e2, b2s, if_pos rfl, b1414_ok]
    unfold mL_law_b534
    rw [e1, b2s, m1, obind, m2, obind]
    by_cases q : S (i + 2) = 0
    · rw [if_pos q] at hb ⊢
      rw [hb]; exact e3
    · rw [if_neg q] at hb ⊢
      rw [hb]; exact e3
  have l1 : ldI 1 (nI i + (1 : Int32)) (hk σ I L) = some (S (i + 1)) := ld 1 (by omega)
  have l2 : ldI 1 (nI i + (2 : Int32)) (hk σ I L) = some (S (i + 2)) := ld 2 (by omega)
  rw [l1, obind, l2, obind]
  by_cases q : S (i + 2) = 0
  · have f := fin false (by rw [if_pos q]; rfl)
    rw [if_pos q]; exact f
  · have f := fin true (by rw [if_neg q]; rfl)
    rw [if_neg q]; exact f
theorem lc_say (h : AL σ I L S T N a P K Q X n fl pl W) (hi : i + 5 ≤ gN σ) (h31 : gN σ < 2147483648) : ST σ S i ((ldI 1 ((nI i) + (1 : Int32)) (hk σ I L)).bind fun v95 => (ldI 1 ((nI i) + (2 : Int32)) (hk σ I L)).bind fun v96 => (ldI 1 ((nI i) + (3 : Int32)) (hk σ I L)).bind fun v97 => b2 (mX11_say 100 v95 v96 v97 (hk σ I L)) fun v98 h99 => (ldI 1 ((nI i) + (1 : Int32)) h99).bind fun v100 => (ldI 1 ((nI i) + (2 : Int32)) h99).bind fun v101 => (ldI 1 ((nI i) + (3 : Int32)) h99).bind fun v102 => b2 (mX12_say 433 v100 v101 v102 h99) fun v103 h104 => if v98 = v103 then (mL_law_b1414 1 100 433 (nI i) h104) else (xt (some ((0 : Int32), h104)))) := by
  obtain ⟨hSG, hS1, hB, hX, hF, hA, hN, hR⟩ := id h
  have ld : ∀ j, j < 5 → ldI 1 (nI i + nI j) (hk σ I L) = some (S (i + j)) := fun j hj => ldS hS1 (by omega) h31
  have l1 : ldI 1 (nI i + (1 : Int32)) (hk σ I L) = some (S (i + 1)) := ld 1 (by omega)
  have l2 : ldI 1 (nI i + (2 : Int32)) (hk σ I L) = some (S (i + 2)) := ld 2 (by omega)
  have l3 : ldI 1 (nI i + (3 : Int32)) (hk σ I L) = some (S (i + 3)) := ld 3 (by omega)
  obtain ⟨v, σ1, I1, L1, I2, L2, e1, e2, ⟨eN, eS⟩, hA⟩ := h.act (q_say hB (S (i + 1)) (S (i + 2)) (S (i + 3)))
  refine ⟨σ1, I2, L2, ?_, eN, hA⟩
  have e2 : mX12_say 433 (S (i + 1)) (S (i + 2)) (S (i + 3)) (hk σ1 I1 L1) = some (v, hk σ1 I2 L2) := e2
  have m1 : ldI 1 (nI i + (1 : Int32)) (hk σ1 I1 L1) = some (S (i + 1)) := ldS (j := 1) eS (by omega) (by omega)
  have m2 : ldI 1 (nI i + (2 : Int32)) (hk σ1 I1 L1) = some (S (i + 2)) := ldS (j := 2) eS (by omega) (by omega)
  have m3 : ldI 1 (nI i + (3 : Int32)) (hk σ1 I1 L1) = some (S (i + 3)) := ldS (j := 3) eS (by omega) (by omega)
  rw [l1, obind, l2, obind, l3, obind, e1, b2s, m1, obind, m2, obind, m3, obind, e2, b2s, if_pos rfl, b1414_ok]
theorem lc_add (h : AL σ I L S T N a P K Q X n fl pl W) (hi : i + 5 ≤ gN σ) (h31 : gN σ < 2147483648) : ST σ S i ((ldI 1 ((nI i) + (1 : Int32)) (hk σ I L)).bind fun v105 => (ldI 1 ((nI i) + (2 : Int32)) (hk σ I L)).bind fun v106 => (ldI 1 ((nI i) + (3 : Int32)) (hk σ I L)).bind fun v107 => b2 (mX11_add 100 v105 v106 v107 (hk σ I L)) fun v108 h109 => (ldI 1 ((nI i) + (1 : Int32)) h109).bind fun v110 => (ldI 1 ((nI i) + (2 : Int32)) h109).bind fun v111 => (ldI 1 ((nI i) + (3 : Int32)) h109).bind fun v112 => b2 (mX12_add 433 v110 v111 v112 h109) fun v113 h114 => if v108 = v113 then (mL_law_b1414 1 100 433 (nI i) h114) else (xt (some ((0 : Int32), h114)))) := by
  obtain ⟨hSG, hS1, hB, hX, hF, hA, hN, hR⟩ := id h
  have ld : ∀ j, j < 5 → ldI 1 (nI i + nI j) (hk σ I L) = some (S (i + j)) := fun j hj => ldS hS1 (by omega) h31
  have l1 : ldI 1 (nI i + (1 : Int32)) (hk σ I L) = some (S (i + 1)) := ld 1 (by omega)
  have l2 : ldI 1 (nI i + (2 : Int32)) (hk σ I L) = some (S (i + 2)) := ld 2 (by omega)
  have l3 : ldI 1 (nI i + (3 : Int32)) (hk σ I L) = some (S (i + 3)) := ld 3 (by omega)
  obtain ⟨v, σ1, I1, L1, I2, L2, e1, e2, ⟨eN, eS⟩, hA⟩ := h.act (q_add hB (S (i + 1)) (S (i + 2)) (S (i + 3)))
  refine ⟨σ1, I2, L2, ?_, eN, hA⟩
  have e2 : mX12_add 433 (S (i + 1)) (S (i + 2)) (S (i + 3)) (hk σ1 I1 L1) = some (v, hk σ1 I2 L2) := e2
  have m1 : ldI 1 (nI i + (1 : Int32)) (hk σ1 I1 L1) = some (S (i + 1)) := ldS (j := 1) eS (by omega) (by omega)
  have m2 : ldI 1 (nI i + (2 : Int32)) (hk σ1 I1 L1) = some (S (i + 2)) := ldS (j := 2) eS (by omega) (by omega)
  have m3 : ldI 1 (nI i + (3 : Int32)) (hk σ1 I1 L1) = some (S (i + 3)) := ldS (j := 3) eS (by omega) (by omega)
  rw [l1, obind, l2, obind, l3, obind, e1, b2s, m1, obind, m2, obind, m3, obind, e2, b2s, if_pos rfl, b1414_ok]
theorem lc_strike (h : AL σ I L S T N a P K Q X n fl pl W) (hi : i + 5 ≤ gN σ) (h31 : gN σ < 2147483648) : ST σ S i ((ldI 1 ((nI i) + (1 : Int32)) (hk σ I L)).bind fun v115 => b2 (mX11_strike 100 v115 (hk σ I L)) fun v116 h117 => (ldI 1 ((nI i) + (1 : Int32)) h117).bind fun v118 => b2 (mX12_strike 433 v118 h117) fun v119 h120 => if v116 = v119 then (mL_law_b1414 1 100 433 (nI i) h120) else (xt (some ((0 : Int32), h120)))) := by
  obtain ⟨hSG, hS1, hB, hX, hF, hA, hN, hR⟩ := id h
  have ld : ∀ j, j < 5 → ldI 1 (nI i + nI j) (hk σ I L) = some (S (i + j)) := fun j hj => ldS hS1 (by omega) h31
  have l1 : ldI 1 (nI i + (1 : Int32)) (hk σ I L) = some (S (i + 1)) := ld 1 (by omega)
  obtain ⟨v, σ1, I1, L1, I2, L2, e1, e2, ⟨eN, eS⟩, hA⟩ := h.act (q_strike hB (S (i + 1)))
  refine ⟨σ1, I2, L2, ?_, eN, hA⟩
  have e2 : mX12_strike 433 (S (i + 1)) (hk σ1 I1 L1) = some (v, hk σ1 I2 L2) := e2
  have m1 : ldI 1 (nI i + (1 : Int32)) (hk σ1 I1 L1) = some (S (i + 1)) := ldS (j := 1) eS (by omega) (by omega)
  rw [l1, obind, e1, b2s, m1, obind, e2, b2s, if_pos rfl, b1414_ok]
theorem lc_days (h : AL σ I L S T N a P K Q X n fl pl W) (hi : i + 5 ≤ gN σ) (h31 : gN σ < 2147483648) : ST σ S i ((ldI 1 ((nI i) + (1 : Int32)) (hk σ I L)).bind fun v121 => b2 (mX11_days 100 v121 (hk σ I L)) fun v122 h123 => (ldI 1 ((nI i) + (1 : Int32)) h123).bind fun v124 => b2 (mX12_days 433 v124 h123) fun v125 h126 => if v122 = v125 then (mL_law_b1414 1 100 433 (nI i) h126) else (xt (some ((0 : Int32), h126)))) := by
  obtain ⟨hSG, hS1, hB, hX, hF, hA, hN, hR⟩ := id h
  have ld : ∀ j, j < 5 → ldI 1 (nI i + nI j) (hk σ I L) = some (S (i + j)) := fun j hj => ldS hS1 (by omega) h31
  have l1 : ldI 1 (nI i + (1 : Int32)) (hk σ I L) = some (S (i + 1)) := ld 1 (by omega)
  obtain ⟨v, σ1, I1, L1, I2, L2, e1, e2, ⟨eN, eS⟩, hA⟩ := h.act (q_days hB (S (i + 1)))
  refine ⟨σ1, I2, L2, ?_, eN, hA⟩
  have e2 : mX12_days 433 (S (i + 1)) (hk σ1 I1 L1) = some (v, hk σ1 I2 L2) := e2
  have m1 : ldI 1 (nI i + (1 : Int32)) (hk σ1 I1 L1) = some (S (i + 1)) := ldS (j := 1) eS (by omega) (by omega)
  rw [l1, obind, e1, b2s, m1, obind, e2, b2s, if_pos rfl, b1414_ok]
theorem lc_undo (h : AL σ I L S T N a P K Q X n fl pl W) (hi : i + 5 ≤ gN σ) (h31 : gN σ < 2147483648) : ST σ S i (b2 (mX11_undo 100 (hk σ I L)) fun v127 h128 => b2 (mX12_undo 433 h128) fun v129 h130 => if v127 = v129 then (mL_law_b1414 1 100 433 (nI i) h130) else (xt (some ((0 : Int32), h130)))) := by
  obtain ⟨hSG, hS1, hB, hX, hF, hA, hN, hR⟩ := id h
  have ld : ∀ j, j < 5 → ldI 1 (nI i + nI j) (hk σ I L) = some (S (i + j)) := fun j hj => ldS hS1 (by omega) h31
  obtain ⟨v, σ1, I1, L1, I2, L2, e1, e2, ⟨eN, eS⟩, hA⟩ := h.act (q_undo hB)
  refine ⟨σ1, I2, L2, ?_, eN, hA⟩
  have e2 : mX12_undo 433 (hk σ1 I1 L1) = some (v, hk σ1 I2 L2) := e2
  rw [e1, b2s, e2, b2s, if_pos rfl, b1414_ok]
theorem lc_keep (h : AL σ I L S T N a P K Q X n fl pl W) (hi : i + 5 ≤ gN σ) (h31 : gN σ < 2147483648) : ST σ S i ((ldI 1 ((nI i) + (1 : Int32)) (hk σ I L)).bind fun v131 => b2 (mX11_keep 100 v131 (hk σ I L)) fun v132 h133 => (ldI 1 ((nI i) + (1 : Int32)) h133).bind fun v134 => b2 (mX12_keep 433 v134 h133) fun v135 h136 => if v132 = v135 then (mL_law_b1414 1 100 433 (nI i) h136) else (xt (some ((0 : Int32), h136)))) := by
  obtain ⟨hSG, hS1, hB, hX, hF, hA, hN, hR⟩ := id h
  have ld : ∀ j, j < 5 → ldI 1 (nI i + nI j) (hk σ I L) = some (S (i + j)) := fun j hj => ldS hS1 (by omega) h31
  have l1 : ldI 1 (nI i + (1 : Int32)) (hk σ I L) = some (S (i + 1)) := ld 1 (by omega)
  obtain ⟨v, σ1, I1, L1, I2, L2, e1, e2, ⟨eN, eS⟩, hA⟩ := h.act (q_keep hB (S (i + 1)))
  refine ⟨σ1, I2, L2, ?_, eN, hA⟩
  have e2 : mX12_keep 433 (S (i + 1)) (hk σ1 I1 L1) = some (v, hk σ1 I2 L2) := e2
  have m1 : ldI 1 (nI i + (1 : Int32)) (hk σ1 I1 L1) = some (S (i + 1)) := ldS (j := 1) eS (by omega) (by omega)
  rw [l1, obind, e1, b2s, m1, obind, e2, b2s, if_pos rfl, b1414_ok]
theorem lc_again (h : AL σ I L S T N a P K Q X n fl pl W) (hi : i + 5 ≤ gN σ) (h31 : gN σ < 2147483648) : ST σ S i ((ldI 1 ((nI i) + (1 : Int32)) (hk σ I L)).bind fun v137 => b2 (mX11_again 100 v137 (hk σ I L)) fun v138 h139 => (ldI 1 ((nI i) + (1 : Int32)) h139).bind fun v140 => b2 (mX12_again 433 v140 h139) fun v141 h142 => if v138 = v141 then (mL_law_b1414 1 100 433 (nI i) h142) else (xt (some ((0 : Int32), h142)))) := by
  obtain ⟨hSG, hS1, hB, hX, hF, hA, hN, hR⟩ := id h
  have ld : ∀ j, j < 5 → ldI 1 (nI i + nI j) (hk σ I L) = some (S (i + j)) := fun j hj => ldS hS1 (by omega) h31
  have l1 : ldI 1 (nI i + (1 : Int32)) (hk σ I L) = some (S (i + 1)) := ld 1 (by omega)
  obtain ⟨v, σ1, I1, L1, I2, L2, e1, e2, ⟨eN, eS⟩, hA⟩ := h.act (q_again hB (S (i + 1)))
  refine ⟨σ1, I2, L2, ?_, eN, hA⟩
  have e2 : mX12_again 433 (S (i + 1)) (hk σ1 I1 L1) = some (v, hk σ1 I2 L2) := e2
  have m1 : ldI 1 (nI i + (1 : Int32)) (hk σ1 I1 L1) = some (S (i + 1)) := ldS (j := 1) eS (by omega) (by omega)
  rw [l1, obind, e1, b2s, m1, obind, e2, b2s, if_pos rfl, b1414_ok]
theorem lc_worlds (h : AL σ I L S T N a P K Q X n fl pl W) (hi : i + 5 ≤ gN σ) (h31 : gN σ < 2147483648) : ST σ S i ((ldI 1 ((nI i) + (1 : Int32)) (hk σ I L)).bind fun v143 => b2 (mX11_worlds 100 v143 (hk σ I L)) fun v144 h145 => (ldI 1 ((nI i) + (1 : Int32)) h145).bind fun v146 => (mX12_worlds 433 v146 h145).bind fun v147 => if v144 = v147 then (mL_law_b1414 1 100 433 (nI i) h145) else (xt (some ((0 : Int32), h145)))) := by
  obtain ⟨hSG, hS1, hB, hX, hF, hA, hN, hR⟩ := id h
  have ld : ∀ j, j < 5 → ldI 1 (nI i + nI j) (hk σ I L) = some (S (i + j)) := fun j hj => ldS hS1 (by omega) h31
  have l1 : ldI 1 (nI i + (1 : Int32)) (hk σ I L) = some (S (i + 1)) := ld 1 (by omega)
  obtain ⟨v, L1, e1, e2, f1⟩ := q_worlds hB.1 hB.2.1 (S (i + 1))
  obtain ⟨eS, hA2⟩ := h.q2 f1 FrM.rf
  refine ⟨σ, I, L1, ?_, rfl, hA2⟩
  have m1 : ldI 1 (nI i + (1 : Int32)) (hk σ I L1) = some (S (i + 1)) := ldS (j := 1) eS (by omega) (by omega)
  rw [l1, obind, e1, b2s, m1, obind, e2, obind, if_pos rfl, b1414_ok]
theorem lc_clash (h : AL σ I L S T N a P K Q X n fl pl W) (hi : i + 5 ≤ gN σ) (h31 : gN σ < 2147483648) : ST σ S i ((ldI 1 ((nI i) + (1 : Int32)) (hk σ I L)).bind fun v149 => (ldI 1 ((nI i) + (2 : Int32)) (hk σ I L)).bind fun v150 => b2 (mX11_clash 100 v149 v150 (hk σ I L)) fun v151 h152 => (ldI 1 ((nI i) + (1 : Int32)) h152).bind fun v153 => (ldI 1 ((nI i) + (2 : Int32)) h152).bind fun v154 => b2 (mX12_clash 433 v153 v154 h152) fun v155 h156 => if v151 = v155 then (mL_law_b1414 1 100 433 (nI i) h156) else (xt (some ((0 : Int32), h156)))) := by
  obtain ⟨hSG, hS1, hB, hX, hF, hA, hN, hR⟩ := id h
  have ld : ∀ j, j < 5 → ldI 1 (nI i + nI j) (hk σ I L) = some (S (i + j)) := fun j hj => ldS hS1 (by omega) h31
  have l1 : ldI 1 (nI i + (1 : Int32)) (hk σ I L) = some (S (i + 1)) := ld 1 (by omega)
  have l2 : ldI 1 (nI i + (2 : Int32)) (hk σ I L) = some (S (i + 2)) := ld 2 (by omega)
  have key : LW σ S (mX11_clash 100 (S (i + 1)) (S (i + 2)) (hk σ I L)) (fun hp => mX12_clash 433 (S (i + 1)) (S (i + 2)) hp) := by
    obtain ⟨v, L1, I2, e1, e2, f1, f2⟩ := q_clash hB.1 hB.2.1 (S (i + 1)) (S (i + 2))
    exact h.q e1 e2 f1 f2
  obtain ⟨v, σ1, I1, L1, I2, L2, e1, e2, ⟨eN, eS⟩, hA⟩ := key
  refine ⟨σ1, I2, L2, ?_, eN, hA⟩
  have e2 : mX12_clash 433 (S (i + 1)) (S (i + 2)) (hk σ1 I1 L1) = some (v, hk σ1 I2 L2) := e2
  have m1 : ldI 1 (nI i + (1 : Int32)) (hk σ1 I1 L1) = some (S (i + 1)) := ldS (j := 1) eS (by omega) (by omega)
  have m2 : ldI 1 (nI i + (2 : Int32)) (hk σ1 I1 L1) = some (S (i + 2)) := ldS (j := 2) eS (by omega) (by omega)
  rw [l1, obind, l2, obind, e1, b2s, m1, obind, m2, obind, e2, b2s, if_pos rfl, b1414_ok]
theorem lc_implied (h : AL σ I L S T N a P K Q X n fl pl W) (hi : i + 5 ≤ gN σ) (h31 : gN σ < 2147483648) : ST σ S i ((ldI 1 ((nI i) + (1 : Int32)) (hk σ I L)).bind fun v157 => (ldI 1 ((nI i) + (2 : Int32)) (hk σ I L)).bind fun v158 => b2 (mX11_implied 100 v157 v158 (hk σ I L)) fun v159 h160 => (ldI 1 ((nI i) + (1 : Int32)) h160).bind fun v161 => (ldI 1 ((nI i) + (2 : Int32)) h160).bind fun v162 => (mX12_implied 433 v161 v162 h160).bind fun v163 => if v159 = v163 then (mL_law_b1414 1 100 433 (nI i) h160) else (xt (some ((0 : Int32), h160)))) := by
  obtain ⟨hSG, hS1, hB, hX, hF, hA, hN, hR⟩ := id h
  have ld : ∀ j, j < 5 → ldI 1 (nI i + nI j) (hk σ I L) = some (S (i + j)) := fun j hj => ldS hS1 (by omega) h31
  have l1 : ldI 1 (nI i + (1 : Int32)) (hk σ I L) = some (S (i + 1)) := ld 1 (by omega)
  have l2 : ldI 1 (nI i + (2 : Int32)) (hk σ I L) = some (S (i + 2)) := ld 2 (by omega)
  obtain ⟨v, L1, e1, e2, f1⟩ := q_implied hB.1 hB.2.1 (S (i + 1)) (S (i + 2))
  obtain ⟨eS, hA2⟩ := h.q2 f1 FrM.rf
  refine ⟨σ, I, L1, ?_, rfl, hA2⟩
  have m1 : ldI 1 (nI i + (1 : Int32)) (hk σ I L1) = some (S (i + 1)) := ldS (j := 1) eS (by omega) (by omega)
  have m2 : ldI 1 (nI i + (2 : Int32)) (hk σ I L1) = some (S (i + 2)) := ldS (j := 2) eS (by omega) (by omega)
  rw [l1, obind, l2, obind, e1, b2s, m1, obind, m2, obind, e2, obind, if_pos rfl, b1414_ok]
theorem lc_lacks (h : AL σ I L S T N a P K Q X n fl pl W) (hi : i + 5 ≤ gN σ) (h31 : gN σ < 2147483648) : ST σ S i ((ldI 1 ((nI i) + (1 : Int32)) (hk σ I L)).bind fun v165 => (ldI 1 ((nI i) + (2 : Int32)) (hk σ I L)).bind fun v166 => b2 (mX11_lacks 100 v165 v166 (hk σ I L)) fun v167 h168 => (ldI 1 ((nI i) + (1 : Int32)) h168).bind fun v169 => (ldI 1 ((nI i) + (2 : Int32)) h168).bind fun v170 => b2 (mX12_lacks 433 v169 v170 h168) fun v171 h172 => if v167 = v171 then (mL_law_b1414 1 100 433 (nI i) h172) else (xt (some ((0 : Int32), h172)))) := by
  obtain ⟨hSG, hS1, hB, hX, hF, hA, hN, hR⟩ := id h
  have ld : ∀ j, j < 5 → ldI 1 (nI i + nI j) (hk σ I L) = some (S (i + j)) := fun j hj => ldS hS1 (by omega) h31
  have l1 : ldI 1 (nI i + (1 : Int32)) (hk σ I L) = some (S (i + 1)) := ld 1 (by omega)
  have l2 : ldI 1 (nI i + (2 : Int32)) (hk σ I L) = some (S (i + 2)) := ld 2 (by omega)
  have key : LW σ S (mX11_lacks 100 (S (i + 1)) (S (i + 2)) (hk σ I L)) (fun hp => mX12_lacks 433 (S (i + 1)) (S (i + 2)) hp) := by
    obtain ⟨v, I1, L1, I2, e1, e2, f1, f2⟩ := q_lacks hB.1 hB.2.1 hB.2.2.2.2.2 (S (i + 1)) (S (i + 2))
    exact h.q e1 e2 f1 f2
  obtain ⟨v, σ1, I1, L1, I2, L2, e1, e2, ⟨eN, eS⟩, hA⟩ := key
  refine ⟨σ1, I2, L2, ?_, eN, hA⟩
  have e2 : mX12_lacks 433 (S (i + 1)) (S (i + 2)) (hk σ1 I1 L1) = some (v, hk σ1 I2 L2) := e2
  have m1 : ldI 1 (nI i + (1 : Int32)) (hk σ1 I1 L1) = some (S (i + 1)) := ldS (j := 1) eS (by omega) (by omega)
  have m2 : ldI 1 (nI i + (2 : Int32)) (hk σ1 I1 L1) = some (S (i + 2)) := ldS (j := 2) eS (by omega) (by omega)
  rw [l1, obind, l2, obind, e1, b2s, m1, obind, m2, obind, e2, b2s, if_pos rfl, b1414_ok]
theorem lc_grown (h : AL σ I L S T N a P K Q X n fl pl W) (hi : i + 5 ≤ gN σ) (h31 : gN σ < 2147483648) : ST σ S i ((ldI 1 ((nI i) + (1 : Int32)) (hk σ I L)).bind fun v173 => (ldI 1 ((nI i) + (2 : Int32)) (hk σ I L)).bind fun v174 => (mX11_grown 100 v173 v174 (hk σ I L)).bind fun v175 => (ldI 1 ((nI i) + (1 : Int32)) (hk σ I L)).bind fun v177 => (ldI 1 ((nI i) + (2 : Int32)) (hk σ I L)).bind fun v178 => (mX12_grown 433 v177 v178 (hk σ I L)).bind fun v179 => if v175 = v179 then (mL_law_b1414 1 100 433 (nI i) (hk σ I L)) else (xt (some ((0 : Int32), (hk σ I L))))) := by
  obtain ⟨hSG, hS1, hB, hX, hF, hA, hN, hR⟩ := id h
  have ld : ∀ j, j < 5 → ldI 1 (nI i + nI j) (hk σ I L) = some (S (i + j)) := fun j hj => ldS hS1 (by omega) h31
  have l1 : ldI 1 (nI i + (1 : Int32)) (hk σ I L) = some (S (i + 1)) := ld 1 (by omega)
  have l2 : ldI 1 (nI i + (2 : Int32)) (hk σ I L) = some (S (i + 2)) := ld 2 (by omega)
  obtain ⟨v, e1, e2⟩ := q_grown hB.1 hB.2.1 (S (i + 1)) (S (i + 2))
  refine ⟨σ, I, L, ?_, rfl, T, N, a, P, K, Q, X, n, fl, pl, W, h⟩
  rw [l1, obind, l2, obind, e1, obind, obind, obind, e2, obind, if_pos rfl, b1414_ok]
theorem lc_issues (h : AL σ I L S T N a P K Q X n fl pl W) (hi : i + 5 ≤ gN σ) (h31 : gN σ < 2147483648) : ST σ S i ((ldI 1 ((nI i) + (1 : Int32)) (hk σ I L)).bind fun v181 => b2 (mX11_issues 100 v181 (hk σ I L)) fun v182 h183 => (ldI 1 ((nI i) + (1 : Int32)) h183).bind fun v184 => (mX12_issues 433 v184 h183).bind fun v185 => if v182 = v185 then (mL_law_b1414 1 100 433 (nI i) h183) else (xt (some ((0 : Int32), h183)))) := by
  obtain ⟨hSG, hS1, hB, hX, hF, hA, hN, hR⟩ := id h
  have ld : ∀ j, j < 5 → ldI 1 (nI i + nI j) (hk σ I L) = some (S (i + j)) := fun j hj => ldS hS1 (by omega) h31
  have l1 : ldI 1 (nI i + (1 : Int32)) (hk σ I L) = some (S (i + 1)) := ld 1 (by omega)
  obtain ⟨v, L1, e1, e2, f1⟩ := q_issues hB.1 hB.2.1 (S (i + 1))
  obtain ⟨eS, hA2⟩ := h.q2 f1 FrM.rf
  refine ⟨σ, I, L1, ?_, rfl, hA2⟩
  have m1 : ldI 1 (nI i + (1 : Int32)) (hk σ I L1) = some (S (i + 1)) := ldS (j := 1) eS (by omega) (by omega)
  rw [l1, obind, e1, b2s, m1, obind, e2, obind, if_pos rfl, b1414_ok]
theorem lc_judged (h : AL σ I L S T N a P K Q X n fl pl W) (hi : i + 5 ≤ gN σ) (h31 : gN σ < 2147483648) : ST σ S i ((ldI 1 ((nI i) + (1 : Int32)) (hk σ I L)).bind fun v187 => b2 (mX11_judged 100 v187 (hk σ I L)) fun v188 h189 => (ldI 1 ((nI i) + (1 : Int32)) h189).bind fun v190 => b2 (mX12_judged 433 v190 h189) fun v191 h192 => if v188 = v191 then (mL_law_b1414 1 100 433 (nI i) h192) else (xt (some ((0 : Int32), h192)))) := by
  obtain ⟨hSG, hS1, hB, hX, hF, hA, hN, hR⟩ := id h
  have ld : ∀ j, j < 5 → ldI 1 (nI i + nI j) (hk σ I L) = some (S (i + j)) := fun j hj => ldS hS1 (by omega) h31
  have l1 : ldI 1 (nI i + (1 : Int32)) (hk σ I L) = some (S (i + 1)) := ld 1 (by omega)
  have key : LW σ S (mX11_judged 100 (S (i + 1)) (hk σ I L)) (fun hp => mX12_judged 433 (S (i + 1)) hp) := by
    obtain ⟨v, L1, I2, e1, e2, f1, f2⟩ := q_judged hB.1 hB.2.1 hB.2.2.2.2.1 (S (i + 1))
    exact h.q e1 e2 f1 f2
  obtain ⟨v, σ1, I1, L1, I2, L2, e1, e2, ⟨eN, eS⟩, hA⟩ := key
  refine ⟨σ1, I2, L2, ?_, eN, hA⟩
  have e2 : mX12_judged 433 (S (i + 1)) (hk σ1 I1 L1) = some (v, hk σ1 I2 L2) := e2
  have m1 : ldI 1 (nI i + (1 : Int32)) (hk σ1 I1 L1) = some (S (i + 1)) := ldS (j := 1) eS (by omega) (by omega)
  rw [l1, obind, e1, b2s, m1, obind, e2, b2s, if_pos rfl, b1414_ok]
theorem lc_tries (h : AL σ I L S T N a P K Q X n fl pl W) (hi : i + 5 ≤ gN σ) (h31 : gN σ < 2147483648) : ST σ S i ((ldI 1 ((nI i) + (1 : Int32)) (hk σ I L)).bind fun v193 => (ldI 1 ((nI i) + (2 : Int32)) (hk σ I L)).bind fun v194 => b2 (mX11_tries 100 v193 v194 (hk σ I L)) fun v195 h196 => (ldI 1 ((nI i) + (1 : Int32)) h196).bind fun v197 => (ldI 1 ((nI i) + (2 : Int32)) h196).bind fun v198 => b2 (mX12_tries 433 v197 v198 h196) fun v199 h200 => if v195 = v199 then (mL_law_b1414 1 100 433 (nI i) h200) else (xt (some ((0 : Int32), h200)))) := by
  obtain ⟨hSG, hS1, hB, hX, hF, hA, hN, hR⟩ := id h
  have ld : ∀ j, j < 5 → ldI 1 (nI i + nI j) (hk σ I L) = some (S (i + j)) := fun j hj => ldS hS1 (by omega) h31
  have l1 : ldI 1 (nI i + (1 : Int32)) (hk σ I L) = some (S (i + 1)) := ld 1 (by omega)
  have l2 : ldI 1 (nI i + (2 : Int32)) (hk σ I L) = some (S (i + 2)) := ld 2 (by omega)
  have key : LW σ S (mX11_tries 100 (S (i + 1)) (S (i + 2)) (hk σ I L)) (fun hp => mX12_tries 433 (S (i + 1)) (S (i + 2)) hp) := by
    obtain ⟨v, I1, L1, I2, e1, e2, f1, f2⟩ := q_tries hB.1 hB.2.1 hB.2.2.2.2.1 hB.2.2.2.2.2 (S (i + 1)) (S (i + 2))
    exact h.q e1 e2 f1 f2
  obtain ⟨v, σ1, I1, L1, I2, L2, e1, e2, ⟨eN, eS⟩, hA⟩ := key
  refine ⟨σ1, I2, L2, ?_, eN, hA⟩
  have e2 : mX12_tries 433 (S (i + 1)) (S (i + 2)) (hk σ1 I1 L1) = some (v, hk σ1 I2 L2) := e2
  have m1 : ldI 1 (nI i + (1 : Int32)) (hk σ1 I1 L1) = some (S (i + 1)) := ldS (j := 1) eS (by omega) (by omega)
  have m2 : ldI 1 (nI i + (2 : Int32)) (hk σ1 I1 L1) = some (S (i + 2)) := ldS (j := 2) eS (by omega) (by omega)
  rw [l1, obind, l2, obind, e1, b2s, m1, obind, m2, obind, e2, b2s, if_pos rfl, b1414_ok]
theorem lc_chance (h : AL σ I L S T N a P K Q X n fl pl W) (hi : i + 5 ≤ gN σ) (h31 : gN σ < 2147483648) : ST σ S i ((ldI 1 ((nI i) + (1 : Int32)) (hk σ I L)).bind fun v201 => (ldI 1 ((nI i) + (2 : Int32)) (hk σ I L)).bind fun v202 => b2 (mX11_chance 100 v201 v202 (hk σ I L)) fun v203 h204 => (ldI 1 ((nI i) + (1 : Int32)) h204).bind fun v205 => (ldI 1 ((nI i) + (2 : Int32)) h204).bind fun v206 => b2 (mX12_chance 433 v205 v206 h204) fun v207 h208 => if v203 = v207 then (mL_law_b1414 1 100 433 (nI i) h208) else (xt (some ((0 : Int32), h208)))) := by
  obtain ⟨hSG, hS1, hB, hX, hF, hA, hN, hR⟩ := id h
  have ld : ∀ j, j < 5 → ldI 1 (nI i + nI j) (hk σ I L) = some (S (i + j)) := fun j hj => ldS hS1 (by omega) h31
  have l1 : ldI 1 (nI i + (1 : Int32)) (hk σ I L) = some (S (i + 1)) := ld 1 (by omega)
  have l2 : ldI 1 (nI i + (2 : Int32)) (hk σ I L) = some (S (i + 2)) := ld 2 (by omega)
  have key : LW σ S (mX11_chance 100 (S (i + 1)) (S (i + 2)) (hk σ I L)) (fun hp => mX12_chance 433 (S (i + 1)) (S (i + 2)) hp) := by
    obtain ⟨v, L1, L2, e1, e2, f1, f2⟩ := q_chance hB.1 hB.2.1 (S (i + 1)) (S (i + 2))
    exact h.q e1 e2 f1 f2
  obtain ⟨v, σ1, I1, L1, I2, L2, e1, e2, ⟨eN, eS⟩, hA⟩ := key
  refine ⟨σ1, I2, L2, ?_, eN, hA⟩
  have e2 : mX12_chance 433 (S (i + 1)) (S (i + 2)) (hk σ1 I1 L1) = some (v, hk σ1 I2 L2) := e2
  have m1 : ldI 1 (nI i + (1 : Int32)) (hk σ1 I1 L1) = some (S (i + 1)) := ldS (j := 1) eS (by omega) (by omega)
  have m2 : ldI 1 (nI i + (2 : Int32)) (hk σ1 I1 L1) = some (S (i + 2)) := ldS (j := 2) eS (by omega) (by omega)
  rw [l1, obind, l2, obind, e1, b2s, m1, obind, m2, obind, e2, b2s, if_pos rfl, b1414_ok]
theorem lc_award (h : AL σ I L S T N a P K Q X n fl pl W) (hi : i + 5 ≤ gN σ) (h31 : gN σ < 2147483648) : ST σ S i ((ldI 1 ((nI i) + (1 : Int32)) (hk σ I L)).bind fun v209 => b2 (mX11_award 100 v209 (hk σ I L)) fun v210 h211 => (ldI 1 ((nI i) + (1 : Int32)) h211).bind fun v212 => b2 (mX12_award 433 v212 h211) fun v213 h214 => if v210 = v213 then (mL_law_b1414 1 100 433 (nI i) h214) else (xt (some ((0 : Int32), h214)))) := by
  obtain ⟨hSG, hS1, hB, hX, hF, hA, hN, hR⟩ := id h
  have ld : ∀ j, j < 5 → ldI 1 (nI i + nI j) (hk σ I L) = some (S (i + j)) := fun j hj => ldS hS1 (by omega) h31
  have l1 : ldI 1 (nI i + (1 : Int32)) (hk σ I L) = some (S (i + 1)) := ld 1 (by omega)
  have key : LW σ S (mX11_award 100 (S (i + 1)) (hk σ I L)) (fun hp => mX12_award 433 (S (i + 1)) hp) := by
    obtain ⟨v, I1, L1, I2, e1, e2, f1, f2⟩ := q_award hB.1 hB.2.1 (S (i + 1))
    exact h.q e1 e2 f1 f2
  obtain ⟨v, σ1, I1, L1, I2, L2, e1, e2, ⟨eN, eS⟩, hA⟩ := key
  refine ⟨σ1, I2, L2, ?_, eN, hA⟩
  have e2 : mX12_award 433 (S (i + 1)) (hk σ1 I1 L1) = some (v, hk σ1 I2 L2) := e2
  have m1 : ldI 1 (nI i + (1 : Int32)) (hk σ1 I1 L1) = some (S (i + 1)) := ldS (j := 1) eS (by omega) (by omega)
  rw [l1, obind, e1, b2s, m1, obind, e2, b2s, if_pos rfl, b1414_ok]
theorem lc_meant (h : AL σ I L S T N a P K Q X n fl pl W) (hi : i + 5 ≤ gN σ) (h31 : gN σ < 2147483648) : ST σ S i ((ldI 1 ((nI i) + (1 : Int32)) (hk σ I L)).bind fun v215 => b2 (mX11_meant 100 v215 (hk σ I L)) fun v216 h217 => (ldI 1 ((nI i) + (1 : Int32)) h217).bind fun v218 => b2 (mX12_meant 433 v218 h217) fun v219 h220 => if (lg_cmp v216 v219) = 0 then (mL_law_b1414 1 100 433 (nI i) h220) else (xt (some ((0 : Int32), h220)))) := by
  obtain ⟨hSG, hS1, hB, hX, hF, hA, hN, hR⟩ := id h
  have ld : ∀ j, j < 5 → ldI 1 (nI i + nI j) (hk σ I L) = some (S (i + j)) := fun j hj => ldS hS1 (by omega) h31
  have l1 : ldI 1 (nI i + (1 : Int32)) (hk σ I L) = some (S (i + 1)) := ld 1 (by omega)
  obtain ⟨v, I1, L1, I2, L2, e1, e2, f1, f2⟩ := q_meant hB.1 hB.2.1 (S (i + 1))
  obtain ⟨eS, hA2⟩ := h.q2 f1 f2
  refine ⟨σ, I2, L2, ?_, rfl, hA2⟩
  have m1 : ldI 1 (nI i + (1 : Int32)) (hk σ I1 L1) = some (S (i + 1)) := ldS (j := 1) eS (by omega) (by omega)
  rw [l1, obind, e1, b2s, m1, obind, e2, b2s, if_pos (by rw [lg_cmp0]), b1414_ok]
theorem lc_outcomes (h : AL σ I L S T N a P K Q X n fl pl W) (hi : i + 5 ≤ gN σ) (h31 : gN σ < 2147483648) : ST σ S i (b2 (mX11_outcomes 100 (hk σ I L)) fun v221 h222 => b2 (mX12_outcomes 433 h222) fun v223 h224 => if v221 = v223 then (mL_law_b1414 1 100 433 (nI i) h224) else (xt (some ((0 : Int32), h224)))) := by
  obtain ⟨hSG, hS1, hB, hX, hF, hA, hN, hR⟩ := id h
  have ld : ∀ j, j < 5 → ldI 1 (nI i + nI j) (hk σ I L) = some (S (i + j)) := fun j hj => ldS hS1 (by omega) h31
  have key : LW σ S (mX11_outcomes 100 (hk σ I L)) (fun hp => mX12_outcomes 433 hp) := by
    obtain ⟨v, I1, L1, I2, e1, e2, f1, f2⟩ := q_outcomes hB.1 hB.2.1
    exact h.q e1 e2 f1 f2
  obtain ⟨v, σ1, I1, L1, I2, L2, e1, e2, ⟨eN, eS⟩, hA⟩ := key
  refine ⟨σ1, I2, L2, ?_, eN, hA⟩
  have e2 : mX12_outcomes 433 (hk σ1 I1 L1) = some (v, hk σ1 I2 L2) := e2
  rw [e1, b2s, e2, b2s, if_pos rfl, b1414_ok]
theorem lc_outcome (h : AL σ I L S T N a P K Q X n fl pl W) (hi : i + 5 ≤ gN σ) (h31 : gN σ < 2147483648) : ST σ S i ((ldI 1 ((nI i) + (1 : Int32)) (hk σ I L)).bind fun v225 => (ldI 1 ((nI i) + (2 : Int32)) (hk σ I L)).bind fun v226 => b2 (mX11_outcome 100 v225 v226 (hk σ I L)) fun v227 h228 => (ldI 1 ((nI i) + (1 : Int32)) h228).bind fun v229 => (ldI 1 ((nI i) + (2 : Int32)) h228).bind fun v230 => b2 (mX12_outcome 433 v229 v230 h228) fun v231 h232 => if v227 = v231 then (mL_law_b1414 1 100 433 (nI i) h232) else (xt (some ((0 : Int32), h232)))) := by
  obtain ⟨hSG, hS1, hB, hX, hF, hA, hN, hR⟩ := id h
  have ld : ∀ j, j < 5 → ldI 1 (nI i + nI j) (hk σ I L) = some (S (i + j)) := fun j hj => ldS hS1 (by omega) h31
  have l1 : ldI 1 (nI i + (1 : Int32)) (hk σ I L) = some (S (i + 1)) := ld 1 (by omega)
  have l2 : ldI 1 (nI i + (2 : Int32)) (hk σ I L) = some (S (i + 2)) := ld 2 (by omega)
  have key : LW σ S (mX11_outcome 100 (S (i + 1)) (S (i + 2)) (hk σ I L)) (fun hp => mX12_outcome 433 (S (i + 1)) (S (i + 2)) hp) := by
    obtain ⟨v, I1, L1, I2, e1, e2, f1, f2⟩ := q_outcome hB.1 hB.2.1 (S (i + 1)) (S (i + 2))
    exact h.q e1 e2 f1 f2
  obtain ⟨v, σ1, I1, L1, I2, L2, e1, e2, ⟨eN, eS⟩, hA⟩ := key
  refine ⟨σ1, I2, L2, ?_, eN, hA⟩
  have e2 : mX12_outcome 433 (S (i + 1)) (S (i + 2)) (hk σ1 I1 L1) = some (v, hk σ1 I2 L2) := e2
  have m1 : ldI 1 (nI i + (1 : Int32)) (hk σ1 I1 L1) = some (S (i + 1)) := ldS (j := 1) eS (by omega) (by omega)
  have m2 : ldI 1 (nI i + (2 : Int32)) (hk σ1 I1 L1) = some (S (i + 2)) := ldS (j := 2) eS (by omega) (by omega)
  rw [l1, obind, l2, obind, e1, b2s, m1, obind, m2, obind, e2, b2s, if_pos rfl, b1414_ok]
theorem lc_proofs (h : AL σ I L S T N a P K Q X n fl pl W) (hi : i + 5 ≤ gN σ) (h31 : gN σ < 2147483648) : ST σ S i ((ldI 1 ((nI i) + (1 : Int32)) (hk σ I L)).bind fun v233 => (ldI 1 ((nI i) + (2 : Int32)) (hk σ I L)).bind fun v234 => if v234 = 0 then (mL_law_b1134 1 100 433 (nI i) 100 v233 (0 : Int32) (hk σ I L)) else (mL_law_b1134 1 100 433 (nI i) 100 v233 (1 : Int32) (hk σ I L))) := by
  obtain ⟨hSG, hS1, hB, hX, hF, hA, hN, hR⟩ := id h
  have ld : ∀ j, j < 5 → ldI 1 (nI i + nI j) (hk σ I L) = some (S (i + j)) := fun j hj => ldS hS1 (by omega) h31
  have key : ∀ b : Bool, LW σ S (mX11_proofs 100 (S (i + 1)) (bI b) (hk σ I L)) (fun hp => mX12_proofs 433 (S (i + 1)) (bI b) hp) := fun b => by
    obtain ⟨v, I1, L1, I2, e1, e2, f1, f2⟩ := q_proofs hB.1 hB.2.1 hB.2.2.2.2.1 hB.2.2.2.2.2 (S (i + 1)) b
    exact h.q e1 e2 f1 f2
  have fin : ∀ b : Bool, (if S (i + 2) = 0 then (0 : Int32) else 1) = bI b → ST σ S i (mL_law_b1134 1 100 433 (nI i) 100 (S (i + 1)) (bI b) (hk σ I L)) := fun b hb => by
    obtain ⟨v, σ1, I1, L1, I2, L2, e1, e2, ⟨eN, eS⟩, hA⟩ := key b
    refine ⟨σ1, I2, L2, ?_, eN, hA⟩
    have e2 : mX12_proofs 433 (S (i + 1)) (bI b) (hk σ1 I1 L1) = some (v, hk σ1 I2 L2) := e2
    have m1 : ldI 1 (nI i + (1 : Int32)) (hk σ1 I1 L1) = some (S (i + 1)) := ldS (j := 1) eS (by omega) (by omega)
    have m2 : ldI 1 (nI i + (2 : Int32)) (hk σ1 I1 L1) = some (S (i + 2)) := ldS (j := 2) eS (by omega) (by omega)
    have e3 : mL_law_b1156 1 100 433 (nI i) v 433 (S (i + 1)) (bI b) (hk σ1 I1 L1) = some (.inl (nI (i + 5), hk σ1 I2 L2)) := by
      unfold mL_law_b1156
      rw [e2, b2s, if_pos rfl, b1414_ok]
    unfold mL_law_b1134
    rw [e1, b2s, m1, obind, m2, obind]
    by_cases q : S (i + 2) = 0
    · rw [if_pos q] at hb ⊢
      rw [hb]; exact e3
    · rw [if_neg q] at hb ⊢
      rw [hb]; exact e3
  have l1 : ldI 1 (nI i + (1 : Int32)) (hk σ I L) = some (S (i + 1)) := ld 1 (by omega)
  have l2 : ldI 1 (nI i + (2 : Int32)) (hk σ I L) = some (S (i + 2)) := ld 2 (by omega)
  rw [l1, obind, l2, obind]
  by_cases q : S (i + 2) = 0
  · have f := fin false (by rw [if_pos q]; rfl)
    rw [if_pos q]; exact f
  · have f := fin true (by rw [if_neg q]; rfl)
    rw [if_neg q]; exact f
theorem lc_proof (h : AL σ I L S T N a P K Q X n fl pl W) (hi : i + 5 ≤ gN σ) (h31 : gN σ < 2147483648) : ST σ S i ((ldI 1 ((nI i) + (1 : Int32)) (hk σ I L)).bind fun v241 => (ldI 1 ((nI i) + (2 : Int32)) (hk σ I L)).bind fun v242 => if v242 = 0 then (mL_law_b1183 1 100 433 (nI i) 100 v241 (0 : Int32) (hk σ I L)) else (mL_law_b1183 1 100 433 (nI i) 100 v241 (1 : Int32) (hk σ I L))) := by
  obtain ⟨hSG, hS1, hB, hX, hF, hA, hN, hR⟩ := id h
  have ld : ∀ j, j < 5 → ldI 1 (nI i + nI j) (hk σ I L) = some (S (i + j)) := fun j hj => ldS hS1 (by omega) h31
  have key : ∀ b : Bool, LW σ S (mX11_proof 100 (S (i + 1)) (bI b) (S (i + 3)) (S (i + 4)) (hk σ I L)) (fun hp => mX12_proof 433 (S (i + 1)) (bI b) (S (i + 3)) (S (i + 4)) hp) := fun b => by
    obtain ⟨v, I1, L1, I2, e1, e2, f1, f2⟩ := q_proof hB.1 hB.2.1 hB.2.2.2.2.1 hB.2.2.2.2.2 (S (i + 1)) b (S (i + 3)) (S (i + 4))
    exact h.q e1 e2 f1 f2
  have fin : ∀ b : Bool, (if S (i + 2) = 0 then (0 : Int32) else 1) = bI b → ST σ S i (mL_law_b1183 1 100 433 (nI i) 100 (S (i + 1)) (bI b) (hk σ I L)) := fun b hb => by
    obtain ⟨v, σ1, I1, L1, I2, L2, e1, e2, ⟨eN, eS⟩, hA⟩ := key b
    refine ⟨σ1, I2, L2, ?_, eN, hA⟩
    have e2 : mX12_proof 433 (S (i + 1)) (bI b) (S (i + 3)) (S (i + 4)) (hk σ1 I1 L1) = some (v, hk σ1 I2 L2) := e2
    have l3 : ldI 1 (nI i + (3 : Int32)) (hk σ I L) = some (S (i + 3)) := ld 3 (by omega)
    have l4 : ldI 1 (nI i + (4 : Int32)) (hk σ I L) = some (S (i + 4)) := ld 4 (by omega)
    have m1 : ldI 1 (nI i + (1 : Int32)) (hk σ1 I1 L1) = some (S (i + 1)) := ldS (j := 1) eS (by omega) (by omega)
    have m2 : ldI 1 (nI i + (2 : Int32)) (hk σ1 I1 L1) = some (S (i + 2)) := ldS (j := 2) eS (by omega) (by omega)
    have m3 : ldI 1 (nI i + (3 : Int32)) (hk σ1 I1 L1) = some (S (i + 3)) := ldS (j := 3) eS (by omega) (by omega)
    have m4 : ldI 1 (nI i + (4 : Int32)) (hk σ1 I1 L1) = some (S (i + 4)) := ldS (j := 4) eS (by omega) (by omega)
    have e3 : mL_law_b1215 1 100 433 (nI i) v 433 (S (i + 1)) (bI b) (hk σ1 I1 L1) = some (.inl (nI (i + 5), hk σ1 I2 L2)) := by
      unfold mL_law_b1215
      rw [m3, obind, m4, obind, e2, b2s, if_pos rfl, b1414_ok]
    unfold mL_law_b1183
    rw [l3, obind, l4, obind, e1, b2s, m1, obind, m2, obind]
    by_cases q : S (i + 2) = 0
    · rw [if_pos q] at hb ⊢
      rw [hb]; exact e3
    · rw [if_neg q] at hb ⊢
      rw [hb]; exact e3
  have l1 : ldI 1 (nI i + (1 : Int32)) (hk σ I L) = some (S (i + 1)) := ld 1 (by omega)
  have l2 : ldI 1 (nI i + (2 : Int32)) (hk σ I L) = some (S (i + 2)) := ld 2 (by omega)
  rw [l1, obind, l2, obind]
  by_cases q : S (i + 2) = 0
  · have f := fin false (by rw [if_pos q]; rfl)
    rw [if_pos q]; exact f
  · have f := fin true (by rw [if_neg q]; rfl)
    rw [if_neg q]; exact f
theorem lc_duel (h : AL σ I L S T N a P K Q X n fl pl W) (hi : i + 5 ≤ gN σ) (h31 : gN σ < 2147483648) : ST σ S i ((ldI 1 ((nI i) + (1 : Int32)) (hk σ I L)).bind fun v253 => (ldI 1 ((nI i) + (2 : Int32)) (hk σ I L)).bind fun v254 => b2 (mX11_duel 100 v253 v254 (hk σ I L)) fun v255 h256 => (ldI 1 ((nI i) + (1 : Int32)) h256).bind fun v257 => (ldI 1 ((nI i) + (2 : Int32)) h256).bind fun v258 => b2 (mX12_duel 433 v257 v258 h256) fun v259 h260 => if v255 = v259 then (mL_law_b1414 1 100 433 (nI i) h260) else (xt (some ((0 : Int32), h260)))) := by
  obtain ⟨hSG, hS1, hB, hX, hF, hA, hN, hR⟩ := id h
  have ld : ∀ j, j < 5 → ldI 1 (nI i + nI j) (hk σ I L) = some (S (i + j)) := fun j hj => ldS hS1 (by omega) h31
  have l1 : ldI 1 (nI i + (1 : Int32)) (hk σ I L) = some (S (i + 1)) := ld 1 (by omega)
  have l2 : ldI 1 (nI i + (2 : Int32)) (hk σ I L) = some (S (i + 2)) := ld 2 (by omega)
  have key : LW σ S (mX11_duel 100 (S (i + 1)) (S (i + 2)) (hk σ I L)) (fun hp => mX12_duel 433 (S (i + 1)) (S (i + 2)) hp) := by
    obtain ⟨v, I1, L1, I2, e1, e2, f1, f2⟩ := q_duel hB.1 hB.2.1 hB.2.2.2.2.1 hB.2.2.2.2.2 (S (i + 1)) (S (i + 2))
    exact h.q e1 e2 f1 f2
  obtain ⟨v, σ1, I1, L1, I2, L2, e1, e2, ⟨eN, eS⟩, hA⟩ := key
  refine ⟨σ1, I2, L2, ?_, eN, hA⟩
  have e2 : mX12_duel 433 (S (i + 1)) (S (i + 2)) (hk σ1 I1 L1) = some (v, hk σ1 I2 L2) := e2
  have m1 : ldI 1 (nI i + (1 : Int32)) (hk σ1 I1 L1) = some (S (i + 1)) := ldS (j := 1) eS (by omega) (by omega)
  have m2 : ldI 1 (nI i + (2 : Int32)) (hk σ1 I1 L1) = some (S (i + 2)) := ldS (j := 2) eS (by omega) (by omega)
  rw [l1, obind, l2, obind, e1, b2s, m1, obind, m2, obind, e2, b2s, if_pos rfl, b1414_ok]
theorem lc_turn (h : AL σ I L S T N a P K Q X n fl pl W) (hi : i + 5 ≤ gN σ) (h31 : gN σ < 2147483648) : ST σ S i ((ldI 1 ((nI i) + (1 : Int32)) (hk σ I L)).bind fun v261 => (ldI 1 ((nI i) + (2 : Int32)) (hk σ I L)).bind fun v262 => (ldI 1 ((nI i) + (3 : Int32)) (hk σ I L)).bind fun v263 => b2 (mX11_turn 100 v261 v262 v263 (hk σ I L)) fun v264 h265 => (ldI 1 ((nI i) + (1 : Int32)) h265).bind fun v266 => (ldI 1 ((nI i) + (2 : Int32)) h265).bind fun v267 => (ldI 1 ((nI i) + (3 : Int32)) h265).bind fun v268 => b2 (mX12_turn 433 v266 v267 v268 h265) fun v269 h270 => if v264 = v269 then (mL_law_b1414 1 100 433 (nI i) h270) else (xt (some ((0 : Int32), h270)))) := by
  obtain ⟨hSG, hS1, hB, hX, hF, hA, hN, hR⟩ := id h
  have ld : ∀ j, j < 5 → ldI 1 (nI i + nI j) (hk σ I L) = some (S (i + j)) := fun j hj => ldS hS1 (by omega) h31
  have l1 : ldI 1 (nI i + (1 : Int32)) (hk σ I L) = some (S (i + 1)) := ld 1 (by omega)
  have l2 : ldI 1 (nI i + (2 : Int32)) (hk σ I L) = some (S (i + 2)) := ld 2 (by omega)
  have l3 : ldI 1 (nI i + (3 : Int32)) (hk σ I L) = some (S (i + 3)) := ld 3 (by omega)
  have key : LW σ S (mX11_turn 100 (S (i + 1)) (S (i + 2)) (S (i + 3)) (hk σ I L)) (fun hp => mX12_turn 433 (S (i + 1)) (S (i + 2)) (S (i + 3)) hp) := by
    obtain ⟨v, I1, L1, I2, e1, e2, f1, f2⟩ := q_turn hB.1 hB.2.1 hB.2.2.2.2.1 hB.2.2.2.2.2 (S (i + 1)) (S (i + 2)) (S (i + 3))
    exact h.q e1 e2 f1 f2
  obtain ⟨v, σ1, I1, L1, I2, L2, e1, e2, ⟨eN, eS⟩, hA⟩ := key
  refine ⟨σ1, I2, L2, ?_, eN, hA⟩
  have e2 : mX12_turn 433 (S (i + 1)) (S (i + 2)) (S (i + 3)) (hk σ1 I1 L1) = some (v, hk σ1 I2 L2) := e2
  have m1 : ldI 1 (nI i + (1 : Int32)) (hk σ1 I1 L1) = some (S (i + 1)) := ldS (j := 1) eS (by omega) (by omega)
  have m2 : ldI 1 (nI i + (2 : Int32)) (hk σ1 I1 L1) = some (S (i + 2)) := ldS (j := 2) eS (by omega) (by omega)
  have m3 : ldI 1 (nI i + (3 : Int32)) (hk σ1 I1 L1) = some (S (i + 3)) := ldS (j := 3) eS (by omega) (by omega)
  rw [l1, obind, l2, obind, l3, obind, e1, b2s, m1, obind, m2, obind, m3, obind, e2, b2s, if_pos rfl, b1414_ok]
theorem lc_together (h : AL σ I L S T N a P K Q X n fl pl W) (hi : i + 5 ≤ gN σ) (h31 : gN σ < 2147483648) : ST σ S i ((ldI 1 ((nI i) + (1 : Int32)) (hk σ I L)).bind fun v271 => b2 (mX11_together 100 v271 (hk σ I L)) fun v272 h273 => (ldI 1 ((nI i) + (1 : Int32)) h273).bind fun v274 => (mX12_together 433 v274 h273).bind fun v275 => if v272 = v275 then (mL_law_b1414 1 100 433 (nI i) h273) else (xt (some ((0 : Int32), h273)))) := by
  obtain ⟨hSG, hS1, hB, hX, hF, hA, hN, hR⟩ := id h
  have ld : ∀ j, j < 5 → ldI 1 (nI i + nI j) (hk σ I L) = some (S (i + j)) := fun j hj => ldS hS1 (by omega) h31
  have l1 : ldI 1 (nI i + (1 : Int32)) (hk σ I L) = some (S (i + 1)) := ld 1 (by omega)
  obtain ⟨v, L1, e1, e2, f1⟩ := q_together hB.1 hB.2.1 (S (i + 1))
  obtain ⟨eS, hA2⟩ := h.q2 f1 FrM.rf
  refine ⟨σ, I, L1, ?_, rfl, hA2⟩
  have m1 : ldI 1 (nI i + (1 : Int32)) (hk σ I L1) = some (S (i + 1)) := ldS (j := 1) eS (by omega) (by omega)
  rw [l1, obind, e1, b2s, m1, obind, e2, obind, if_pos rfl, b1414_ok]
theorem lc_elect (h : AL σ I L S T N a P K Q X n fl pl W) (hi : i + 5 ≤ gN σ) (h31 : gN σ < 2147483648) : ST σ S i ((ldI 1 ((nI i) + (1 : Int32)) (hk σ I L)).bind fun v277 => b2 (mX11_elect 100 v277 (hk σ I L)) fun v278 h279 => (ldI 1 ((nI i) + (1 : Int32)) h279).bind fun v280 => b2 (mX12_elect 433 v280 h279) fun v281 h282 => if v278 = v281 then (mL_law_b1414 1 100 433 (nI i) h282) else (xt (some ((0 : Int32), h282)))) := by
  obtain ⟨hSG, hS1, hB, hX, hF, hA, hN, hR⟩ := id h
  have ld : ∀ j, j < 5 → ldI 1 (nI i + nI j) (hk σ I L) = some (S (i + j)) := fun j hj => ldS hS1 (by omega) h31
  have l1 : ldI 1 (nI i + (1 : Int32)) (hk σ I L) = some (S (i + 1)) := ld 1 (by omega)
  have key : LW σ S (mX11_elect 100 (S (i + 1)) (hk σ I L)) (fun hp => mX12_elect 433 (S (i + 1)) hp) := by
    obtain ⟨v, I1, L1, I2, e1, e2, f1, f2⟩ := q_elect hB.1 hB.2.1 (S (i + 1))
    exact h.q e1 e2 f1 f2
  obtain ⟨v, σ1, I1, L1, I2, L2, e1, e2, ⟨eN, eS⟩, hA⟩ := key
  refine ⟨σ1, I2, L2, ?_, eN, hA⟩
  have e2 : mX12_elect 433 (S (i + 1)) (hk σ1 I1 L1) = some (v, hk σ1 I2 L2) := e2
  have m1 : ldI 1 (nI i + (1 : Int32)) (hk σ1 I1 L1) = some (S (i + 1)) := ldS (j := 1) eS (by omega) (by omega)
  rw [l1, obind, e1, b2s, m1, obind, e2, b2s, if_pos rfl, b1414_ok]
theorem lc_ask (h : AL σ I L S T N a P K Q X n fl pl W) (hi : i + 5 ≤ gN σ) (h31 : gN σ < 2147483648) : ST σ S i (b2 (mX11_ask 100 (hk σ I L)) fun v283 h284 => b2 (mX12_ask 433 h284) fun v285 h286 => if v283 = v285 then (mL_law_b1414 1 100 433 (nI i) h286) else (xt (some ((0 : Int32), h286)))) := by
  obtain ⟨hSG, hS1, hB, hX, hF, hA, hN, hR⟩ := id h
  have ld : ∀ j, j < 5 → ldI 1 (nI i + nI j) (hk σ I L) = some (S (i + j)) := fun j hj => ldS hS1 (by omega) h31
  obtain ⟨v, σ1, I1, L1, I2, L2, e1, e2, ⟨eN, eS⟩, hA⟩ := q_ask h
  refine ⟨σ1, I2, L2, ?_, eN, hA⟩
  have e2 : mX12_ask 433 (hk σ1 I1 L1) = some (v, hk σ1 I2 L2) := e2
  rw [e1, b2s, e2, b2s, if_pos rfl, b1414_ok]
theorem lc_asked (h : AL σ I L S T N a P K Q X n fl pl W) (hi : i + 5 ≤ gN σ) (h31 : gN σ < 2147483648) : ST σ S i ((ldI 1 ((nI i) + (1 : Int32)) (hk σ I L)).bind fun v287 => (mX11_asked 100 v287 (hk σ I L)).bind fun v288 => (ldI 1 ((nI i) + (1 : Int32)) (hk σ I L)).bind fun v290 => (mX12_asked 433 v290 (hk σ I L)).bind fun v291 => if v288 = v291 then (mL_law_b1414 1 100 433 (nI i) (hk σ I L)) else (xt (some ((0 : Int32), (hk σ I L))))) := by
  obtain ⟨hSG, hS1, hB, hX, hF, hA, hN, hR⟩ := id h
  have ld : ∀ j, j < 5 → ldI 1 (nI i + nI j) (hk σ I L) = some (S (i + j)) := fun j hj => ldS hS1 (by omega) h31
  have l1 : ldI 1 (nI i + (1 : Int32)) (hk σ I L) = some (S (i + 1)) := ld 1 (by omega)
  obtain ⟨v, e1, e2⟩ := q_asked hA (S (i + 1))
  refine ⟨σ, I, L, ?_, rfl, T, N, a, P, K, Q, X, n, fl, pl, W, h⟩
  rw [l1, obind, e1, obind, obind, e2, obind, if_pos rfl, b1414_ok]
theorem lc_count (h : AL σ I L S T N a P K Q X n fl pl W) (hi : i + 5 ≤ gN σ) (h31 : gN σ < 2147483648) : ST σ S i ((ldI 1 ((nI i) + (1 : Int32)) (hk σ I L)).bind fun v293 => b2 (mX11_count 100 v293 (hk σ I L)) fun v294 h295 => (ldI 1 ((nI i) + (1 : Int32)) h295).bind fun v296 => b2 (mX12_count 433 v296 h295) fun v297 h298 => if v294 = v297 then (mL_law_b1414 1 100 433 (nI i) h298) else (xt (some ((0 : Int32), h298)))) := by
  obtain ⟨hSG, hS1, hB, hX, hF, hA, hN, hR⟩ := id h
  have ld : ∀ j, j < 5 → ldI 1 (nI i + nI j) (hk σ I L) = some (S (i + j)) := fun j hj => ldS hS1 (by omega) h31
  have l1 : ldI 1 (nI i + (1 : Int32)) (hk σ I L) = some (S (i + 1)) := ld 1 (by omega)
  obtain ⟨v, σ1, I1, L1, I2, L2, e1, e2, ⟨eN, eS⟩, hA⟩ := h.act (q_count hB hX (S (i + 1)))
  refine ⟨σ1, I2, L2, ?_, eN, hA⟩
  have e2 : mX12_count 433 (S (i + 1)) (hk σ1 I1 L1) = some (v, hk σ1 I2 L2) := e2
  have m1 : ldI 1 (nI i + (1 : Int32)) (hk σ1 I1 L1) = some (S (i + 1)) := ldS (j := 1) eS (by omega) (by omega)
  rw [l1, obind, e1, b2s, m1, obind, e2, b2s, if_pos rfl, b1414_ok]
end LawCalls
