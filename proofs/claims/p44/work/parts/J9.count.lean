/-! TOLD: a count -/
def pleaW : List Nat := [112, 108, 101, 97]
def countW : List Nat := [99, 111, 117, 110, 116]
def worthW : List Nat := [119, 111, 114, 116, 104]
def aroseW : List Nat := [97, 114, 111, 115, 101]
def needsW : List Nat := [110, 101, 101, 100, 115]
/-- what a step of the counts' loop leaves, or the end of it all -/
def OUT (h00 : Hp) (tb oa na ma ua su ca F k n c s : Nat) (o : (Int32 × Hp) ⊕ (Int32 × Hp)) : Prop :=
  (∃ h' n' v' nl' t' R', o = .inl (nI (k + 1), h') ∧ n' ≤ n ∧ TT h00 h' tb oa na ma ua su n' F nl' t' R' v' c s ∧ SUI h' su ca na ua (k + 1) ∧ (∃ q f, AL h' na q f) ∧ CV v' F (k + 1)) ∨
  (∃ h', o = .inr (1, h') ∧ TD h00 h' oa na ma ua su n c s)
section J9
variable {h h' h0 h00 h1 h2 h3 : Hp} {P P' : Nat → Prop} {c c' s s' z a b n n' x y m F q oa na ma ua su ca nl lo d w e tb k S cn c1 s1 cnts J C s2 : Nat} {t u : List Nat} {l l' : List Nat} {f g : Nat → Nat} {R Rk : List (Nat × Nat)} {v v' : Vt}
theorem TD.up (T : TD h00 h oa na ma ua su n c s) (hn : n ≤ n') (hc : c ≤ C) (hs : s ≤ s2) : TD h00 h oa na ma ua su n' C s2 := by
  obtain ⟨σ, I, L, T0, n1, P, K, Q, e1, e2, e3, e4, e5, e6, e7, e8, e9⟩ := T
  exact ⟨σ, I, L, T0, n1, P, K, Q, e1, e2, e3, e4, e5, e6, by omega, e8, by omega⟩
theorem OUT.up {o : (Int32 × Hp) ⊕ (Int32 × Hp)} (T : OUT h00 tb oa na ma ua su ca F k n c s o) (hn : n ≤ n') (hc : c ≤ C) (hs : s ≤ s2) : OUT h00 tb oa na ma ua su ca F k n' C s2 o := by
  rcases T with ⟨h', n1, v', nl', t', R', e1, e2, e3, e4⟩ | ⟨h', e1, e2⟩
  · exact Or.inl ⟨h', n1, v', nl', t', R', e1, by omega, e3.up hc hs, e4⟩
  · exact Or.inr ⟨h', e1, e2.up hn hc hs⟩
theorem AL.shape (A : AL h a n f) (hN : hpN h ≤ hpN h') (hb : ∀ b, b < hpN h → hpS h' b = hpS h b) (hi : hpI h' a = hpI h a) (hr : hpR h' a = hpR h a) : ∃ q g, AL h' a q g := by
  obtain ⟨w1, w2, w3, w4, w5, w6⟩ := A
  refine ⟨n, fun i => hpR h' (hpR h' a 1) i, w1, by omega, by rw [hb a w2]; exact w3, by rw [hi]; exact w4, w5, ?_⟩
  rw [hr]
  rcases w6 with z | ⟨z1, z2, z3, z4⟩
  · exact Or.inl z
  · exact Or.inr ⟨z1, by omega, by rw [hb _ z2]; exact z3, fun i hi => rfl⟩
/-- the count is made and listed -/
theorem b663_ok (T : TT h00 h tb oa na ma ua su n F nl t R v c s) (hU : SUI h su ca na ua k) (hA : ∃ q f, AL h na q f) (hv : CVs v F k 0) (hk : k < 5) (F1 : 1 ≤ F) (F8 : F ≤ 8) (hn : n + 200 < 1000000000) (x2 w r : Int32) (x5 x6 : Nat) :
    ∃ o, mL_told_b663 99 x2 tb (nI k) x5 x6 w r h = some o ∧ OUT h00 tb oa na ma ua su ca F k (n + 30) (c + 260) (s + 121000) o := by
  obtain ⟨q0, sb, t4, tp, hz, G⟩ := id T
  have w1 := q0.1.1
  obtain ⟨⟨u1, u2, u3, u4, u5, u6⟩, g0, A0⟩ := id hU
  obtain ⟨cn, hcn⟩ : ∃ cn, cn = hpN h := ⟨_, rfl⟩
  have k13 : (hpS (hpNew 13 9 h) cn).1 = 12 + 1 := by rw [hcn, nw_S, if_pos rfl]
  have ntx : ∀ {g : Hp}, (∀ b, hpS g b = hpS (hpNew 13 9 h) b) → ¬ txk g cn := fun {g} hg z => by
    unfold txk at z
    rw [hg, k13] at z
    omega
  obtain ⟨hX, hhX⟩ : ∃ hX, hX = setI (setI (setI (setR (setR (hpNew 13 9 h) cn (updA (hpR (hpNew 13 9 h) cn) 0 x5)) cn (updA (updA (hpR (hpNew 13 9 h) cn) 0 x5) 1 x6)) cn (updA (hpI (hpNew 13 9 h) cn) 2 w)) cn (updA (updA (hpI (hpNew 13 9 h) cn) 2 w) 3 r)) cn (updA (updA (updA (hpI (hpNew 13 9 h) cn) 2 w) 3 r) 7 (nI k)) := ⟨_, rfl⟩
  have GX : Gw h hX nP 1 9 := by
    rw [hhX]
    exact (((((((Gw.rf (h := h) (P := nP) 0 0).nw 13 9).sR (a := cn) (fun z => by omega) (fun z => absurd z (ntx fun _ => rfl))).sR (a := cn) (fun z => by omega) (fun z => absurd z (ntx fun _ => rfl))).sI (a := cn) (fun z => by omega)).sI (a := cn) (fun z => by omega)).sI (a := cn) (fun z => by omega))
  have SX : ∀ b, hpS hX b = hpS (hpNew 13 9 h) b := fun b => by rw [hhX]; rfl
  have NX : hpN hX = hpN h + 1 := by rw [hhX]; rfl
  have qX := q0.np GX
  have gX := GX.gk0 [16]
  have TX := TT.gk T gX (by decide) qX
  have UX := hU.gk gX (by decide)
  have kX : (hpS hX cn).1 = 12 + 1 := by rw [SX]; exact k13
  have CX : CNC hX cn 0 := by
    refine ⟨by omega, by omega, by rw [SX, hcn, nw_S, if_pos rfl], ?_⟩
    rw [hhX, setI_I, if_pos rfl, updA_ne _ _ (by omega), updA_ne _ _ (by omega), updA_ne _ _ (by omega), hcn, nw_I0]; rfl
  have ini : ∀ {ρ : Type} (K : Hp → Option ρ), ((mX12_init cn x5 x6 (hpNew 13 9 h)).bind fun h94 => (sI 12 2 cn w h94).bind fun h95 => (sI 12 3 cn r h95).bind fun h96 => (sI 12 7 cn (nI k) h96).bind K) = K hX := fun K => by
    unfold mX12_init
    have i2 : hpI (setI (setR (setR (hpNew 13 9 h) cn (updA (hpR (hpNew 13 9 h) cn) 0 x5)) cn (updA (updA (hpR (hpNew 13 9 h) cn) 0 x5) 1 x6)) cn (updA (hpI (hpNew 13 9 h) cn) 2 w)) cn = updA (hpI (hpNew 13 9 h) cn) 2 w := by rw [setI_I, if_pos rfl]
    have i3 : hpI (setI (setI (setR (setR (hpNew 13 9 h) cn (updA (hpR (hpNew 13 9 h) cn) 0 x5)) cn (updA (updA (hpR (hpNew 13 9 h) cn) 0 x5) 1 x6)) cn (updA (hpI (hpNew 13 9 h) cn) 2 w)) cn (updA (updA (hpI (hpNew 13 9 h) cn) 2 w) 3 r)) cn = updA (updA (hpI (hpNew 13 9 h) cn) 2 w) 3 r := by rw [setI_I, if_pos rfl]
    have r1 : hpR (setR (hpNew 13 9 h) cn (updA (hpR (hpNew 13 9 h) cn) 0 x5)) cn = updA (hpR (hpNew 13 9 h) cn) 0 x5 := by rw [setR_R, if_pos rfl]
    rw [sR_ok k13, obind, sR_ok (by exact k13), obind, obind, r1, sI_ok (by exact k13), obind]
    show ((sI 12 3 cn r (setI (setR (setR (hpNew 13 9 h) cn (updA (hpR (hpNew 13 9 h) cn) 0 x5)) cn (updA (updA (hpR (hpNew 13 9 h) cn) 0 x5) 1 x6)) cn (updA (hpI (hpNew 13 9 h) cn) 2 w))).bind fun h96 => (sI 12 7 cn (nI k) h96).bind K) = _
    rw [sI_ok (by exact k13), obind, i2, sI_ok (by exact k13), obind, i3, ← hhX]
  obtain ⟨gX2, AX⟩ := UX.2
  obtain ⟨h4, e4, A4, L4, B4⟩ := AX.add (v := cn) qX.1 qX.2.1 qX.2.2 u5 (by omega) (Or.inl kX) (by omega)
  have q4 : TQ h4 oa na ma ua su n F nl := ⟨L4.W, L4.Li, L4.Cl⟩
  have T4 := TT.gk TX L4.G (by decide) q4
  have C4 := CX.gk L4.G (by decide)
  have U4 : SUI h4 su ca na ua (k + 1) := by
    obtain ⟨⟨z1, z2, z3, z4, z5⟩, _⟩ := UX
    have sm := L4.G.sm' z2 (by omega) (by rw [z3]; show 15 ∉ [19, 78]; decide)
    have le := L4.G.le
    exact ⟨⟨z1, by omega, by rw [sm.1]; exact z3, by rw [sm.2.2.2]; exact z4, z5⟩, _, A4⟩
  have N4 : ∃ q f, AL h4 na q f := by
    obtain ⟨q, f, A⟩ := hA
    have A' := A.gk gX (by decide)
    have bb := (B4 na A'.2.1).2 (Ne.symm u6) (by rw [A'.2.2.1]; show 19 ≠ 78; omega)
    exact A'.shape L4.G.le (fun b hb => (B4 b hb).1) bb.1 bb.2
  obtain ⟨j, h5, hj, e5, q5, g5⟩ := q4.draw (by omega) (m := 4) (by omega) (by omega)
  have e5 : mL_draw 99 (4 : Int32) h4 = some (nI j, h5) := e5
  have N5 : ∃ q f, AL h5 na q f := by obtain ⟨q, f, A⟩ := N4; exact ⟨q, f, A.gk g5 (by decide)⟩
  obtain ⟨h6, n6, v6, nl6, t6, R6, e6, hn6, T6, U6, A6, V6⟩ := l717_ok (TT.gk T4 g5 (by decide) q5) (U4.gk g5 (by decide)) N5 hv (C4.gk g5 (by decide)) hk F1 F8 (J := j) (by omega) (by omega) x2
  refine ⟨_, ?_, Or.inl ⟨h6, n6, v6, nl6, t6, R6, rfl, by omega, T6.up (by omega) (by omega), U6, A6, V6⟩⟩
  have k99 : (hpS hX 99).1 = 15 + 1 := qX.1.k99
  have r9 : hpR hX 99 9 = su := qX.1.2.1.2.2.2.2.2.2.2
  have ks : (hpS hX su).1 = 14 + 1 := by rw [UX.1.2.2.1]
  unfold mL_told_b663
  rw [newO_ok 12 9 q0.2.2.1, b2s, ← hcn, ini, gR_ok k99, obind, r9, gR_ok ks, obind, UX.1.2.2.2.1, e4, b2s, e5, b2s, e6]
theorem tp_plea {k : Nat} {Tr2 : Tr 2} (hk : k < 5) (ok : okT 8 2 Tr2) : Tp (((([] ++ [112, 108, 101, 97, 32]) ++ [99, 97 + k]) ++ [32]) ++ tA 2 Tr2) ((262, wpk pleaW) :: (2, 97 + k) :: kA 2 Tr2) := by
  have h1 : Tp pleaW [(262, wpk pleaW)] := Tp.lit (by decide +kernel)
  have h2 := (h1.appF (TpF.sp (c := 32) (Or.inl rfl)) (by decide) (by decide)).appT (Tp.count hk)
  exact (h2.appF (TpF.sp (c := 32) (Or.inl rfl)) (by decide) (by decide)).appT (tp_tree ok)
/-- a row of what is said -/
def A73 (h : Hp) (x m : Nat) : Prop := 433 ≤ x ∧ x < hpN h ∧ hpS h x = (73, m)
theorem A73.gk (w : A73 h x m) (e : GK l h h1 c s) (hl : 73 ∉ l) : A73 h1 x m ∧ hpR h1 x = hpR h x := by
  obtain ⟨w1, w2, w3⟩ := w
  have sm := e.sm' w2 (by omega) (by rw [w3]; exact hl)
  have le := e.le
  exact ⟨⟨w1, by omega, by rw [sm.1]; exact w3⟩, sm.2.2.2⟩
/-- its plea, perhaps -/
theorem b604_ok {x6 bb : Nat} {Tb : Tr 2} (T : TT h00 h tb oa na ma ua su n F nl t R v c s) (hU : SUI h su ca na ua k) (hA : ∃ q f, AL h na q f) (hv : CVs v F k 0) (hv3 : v.2.2.2.1 ≤ k) (hk : k < 5) (F1 : 1 ≤ F) (F8 : F ≤ 8) (hn : n + 250 < 1000000000) (x2 w r : Int32) (x5 : Nat) (h6 : A73 h x6 bb) (hb : bb ≤ 1) (hsa : bb = 1 → SA h 2 (hpR h x6 0) Tb ∧ okT F 2 Tb) :
    ∃ o, mL_told_b604 99 x2 tb (nI k) x5 x6 w r h = some o ∧ OUT h00 tb oa na ma ua su ca F k (n + 40) (c + 700) (s + 145000) o := by
  have lA2 : lA 2 = 89 := rfl
  by_cases hb1 : bb = 1
  · obtain ⟨sa, ok⟩ := hsa hb1
    subst hb1
    have ok8 := ok.mono F8
    obtain ⟨v1, v2, v3, v4, v5, v6, v7⟩ := id hv
    obtain ⟨h1, e1, b1⟩ := BW.new T.1
    obtain ⟨h2, e2, b2'⟩ := b1.app (u := [112, 108, 101, 97, 32]) st30 (by decide)
    obtain ⟨z3, h3, e3, st3, x3⟩ := w_count b2'.2.2.2 (k := k) (by omega)
    have b3 := b2'.np x3
    obtain ⟨h4, e4, b4⟩ := b3.app st3 (by show 5 + 2 ≤ 600; omega)
    obtain ⟨h5, e5, b5⟩ := b4.app (u := [32]) st12 (by show 7 + 1 ≤ 600; omega)
    obtain ⟨a65, r65⟩ := h6.gk b5.2.2.1 (by decide)
    have sa5 := b5.2.2.1.sa sa (by decide) (by decide)
    have tl := tA_len ok
    obtain ⟨z7, h7, e7, st7, x7⟩ := l_all (Nat.le_refl 2) b5.2.2.2.2.2 b5.2.2.2.1.1 sa5 ok8
    have b7 := b5.np x7
    obtain ⟨h8, e8, b8⟩ := b7.app st7 (by show 8 + _ ≤ 600; omega)
    have hY : LY (((262, wpk pleaW) :: (2, 97 + k) :: kA 2 Tb) ++ [(59, 0)]) v (v.1, v.2.1, v.2.2.1, v.2.2.2.1 + 1, v.2.2.2.2) := fun σ X n m la s h1 h2 h3 h4 => LN.plea (v0 := wpk pleaW) (kc := k) h1 h2 h4 (Nat.le_refl 2) (by rw [v1]; exact ok) (by omega) (by omega)
    obtain ⟨zt, ht, et, cs⟩ := T.wr b8 (by rw [List.length_append]; show 8 + _ ≤ 600; omega) (tp_plea hk ok8) hY (by omega)
    have c2' : cA 2 = 314 := rfl
    have s2' : sA 2 = 6120 := by decide
    have pre : ∀ {o}, (b2 (mL_fits 99 tb zt ht) fun v183 h184 => if v183 = 0 then (b2 (newV 73 (0 : Int32) h184) fun v186 h185 => mL_told_b663 99 x2 tb (nI k) x5 v186 w r h185) else (mL_told_b663 99 x2 tb (nI k) x5 x6 w r h184)) = o → mL_told_b604 99 x2 tb (nI k) x5 x6 w r h = o := fun {o} e => by
      unfold mL_told_b604
      rw [aLen_ok h6.2.2 (by decide), obind, if_pos (show nI 1 = (1 : Int32) from rfl), e1, e2, b2s, e3, b2s, e4, b2s, e5, b2s, show (0 : Int32) = nI 0 from rfl, ldR_ok (n := 1) a65.2.2 (by omega) (by omega), obind, r65, e7, b2s, e8, b2s, et, b2s]
      exact e
    rcases cs with ⟨k1, k2, k3, k4⟩ | ⟨h9, n9, t9, R9, k2, k3, k3', k4, k5⟩
    · have Gn := (Gw.rf (h := ht) (P := nP) 0 0).nw 73 0
      have gn := Gn.gk0 [16]
      have T9 := TT.gk k3 gn (by decide) (k3.1.np Gn)
      have A9 : ∃ q f, AL (hpNew 73 0 ht) na q f := by obtain ⟨q, f, A⟩ := hA; exact ⟨q, f, (A.gk k4 (by decide)).gk gn (by decide)⟩
      obtain ⟨o, eo, ho⟩ := b663_ok T9 ((hU.gk k4 (by decide)).gk gn (by decide)) A9 hv hk F1 F8 (by omega) x2 w r x5 (hpN ht)
      refine ⟨o, pre ?_, ho.up (by omega) (by omega) (by omega)⟩
      rw [k2, b2s, if_pos rfl, show newV 73 (0 : Int32) ht = some (hpN ht, hpNew 73 0 ht) from newV_ok 73 (n := 0) k3.1.2.2.1 (by omega), b2s]
      exact eo
    · have A9 : ∃ q f, AL h9 na q f := by obtain ⟨q, f, A⟩ := hA; exact ⟨q, f, A.gk k5 (by decide)⟩
      obtain ⟨o, eo, ho⟩ := b663_ok k4 (hU.gk k5 (by decide)) A9 (k := k) ⟨v1, v2, by show v.2.2.2.1 + 1 ≤ k + 1; omega, v4, v5, v6, v7⟩ hk F1 F8 (by omega) x2 w r x5 x6
      refine ⟨o, pre ?_, ho.up (by omega) (by omega) (by omega)⟩
      rw [k2, b2s, if_neg (show ¬ (1 : Int32) = 0 by decide)]
      exact eo
  · obtain ⟨o, eo, ho⟩ := b663_ok T hU hA hv hk F1 F8 (by omega) x2 w r x5 x6
    refine ⟨o, ?_, ho.up (by omega) (by omega) (by omega)⟩
    unfold mL_told_b604
    rw [aLen_ok h6.2.2 (by decide), obind, show (1 : Int32) = nI 1 from rfl, c_eqd (by omega) (by omega), if_neg hb1]
    exact eo
end J9
