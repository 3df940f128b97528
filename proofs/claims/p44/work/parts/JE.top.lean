/-! TOLD, from its beginning -/
section JE
variable {σ : Sg} {I : Nat → Nat → Int32} {L : Nat → Nat → Int64}
variable {h h' h0 h00 h1 h2 h3 : Hp} {P P' : Nat → Prop} {c c' s s' z a b n n' x y m F q oa na ma ua su ca nl lo d w e tb k S cn c0 s0 cnts J C s2 o most : Nat} {t u t1 : List Nat} {l l' : List Nat} {f g : Nat → Nat} {R Rk Rb : List (Nat × Nat)} {v v' : Vt} {Ts : Nat → Tr 2}
theorem LWs.r9 (w : LWs h oa na ma ua su) (x : Nat) : LWs (CStruckCountsLaw_law_r5327_fb6219.setR h 99 (updA (hpR h 99) 9 x)) oa na ma ua x := by
  obtain ⟨w1, ⟨w2, r0, r1, r6, r7, r8, r11, _⟩, w4, o, ⟨m1, m2, m3, m4⟩, ⟨u1, u2, u3, u4, u5⟩, ne⟩ := w
  have e : ∀ {b : Nat}, b ≠ 99 → hpR (CStruckCountsLaw_law_r5327_fb6219.setR h 99 (updA (hpR h 99) 9 x)) b = hpR h b := fun hb => by rw [setR_R, if_neg hb]
  refine ⟨w1, ⟨w2, ?_, ?_, ?_, ?_, ?_, ?_, ?_⟩, w4, o, ⟨m1, m2, m3, by rw [e (by omega)]; exact m4⟩, ⟨u1, u2, u3, u4, by rw [e (by omega)]; exact u5⟩, ne⟩
  · rw [setR_R, if_pos rfl, updA_ne _ _ (by omega)]; exact r0
  · rw [setR_R, if_pos rfl, updA_ne _ _ (by omega)]; exact r1
  · rw [setR_R, if_pos rfl, updA_ne _ _ (by omega)]; exact r6
  · rw [setR_R, if_pos rfl, updA_ne _ _ (by omega)]; exact r7
  · rw [setR_R, if_pos rfl, updA_ne _ _ (by omega)]; exact r8
  · rw [setR_R, if_pos rfl, updA_ne _ _ (by omega)]; exact r11
  · rw [setR_R, if_pos rfl, updA_same]
theorem LWs.r10 (w : LWs h oa na ma ua su) (x : Nat) : LWs (CStruckCountsLaw_law_r5327_fb6219.setR h 99 (updA (hpR h 99) 10 x)) oa na ma ua su := by
  obtain ⟨w1, ⟨w2, r0, r1, r6, r7, r8, r11, r9⟩, w4, o, ⟨m1, m2, m3, m4⟩, ⟨u1, u2, u3, u4, u5⟩, ne⟩ := w
  have e : ∀ {b : Nat}, b ≠ 99 → hpR (CStruckCountsLaw_law_r5327_fb6219.setR h 99 (updA (hpR h 99) 10 x)) b = hpR h b := fun hb => by rw [setR_R, if_neg hb]
  refine ⟨w1, ⟨w2, ?_, ?_, ?_, ?_, ?_, ?_, ?_⟩, w4, o, ⟨m1, m2, m3, by rw [e (by omega)]; exact m4⟩, ⟨u1, u2, u3, u4, by rw [e (by omega)]; exact u5⟩, ne⟩
  · rw [setR_R, if_pos rfl, updA_ne _ _ (by omega)]; exact r0
  · rw [setR_R, if_pos rfl, updA_ne _ _ (by omega)]; exact r1
  · rw [setR_R, if_pos rfl, updA_ne _ _ (by omega)]; exact r6
  · rw [setR_R, if_pos rfl, updA_ne _ _ (by omega)]; exact r7
  · rw [setR_R, if_pos rfl, updA_ne _ _ (by omega)]; exact r8
  · rw [setR_R, if_pos rfl, updA_ne _ _ (by omega)]; exact r11
  · rw [setR_R, if_pos rfl, updA_ne _ _ (by omega)]; exact r9
/-- a new suit -/
theorem suit_mk (hC : CLO h) (h433 : 433 ≤ hpN h) : ∃ hZ su ca, (∀ {ρ : Type} (K : Nat → Hp → Option ρ), (b2 (newO 14 5 h) fun v h1 => (mX14_init v h1).bind fun h2 => K v h2) = K su hZ) ∧ Gw h hZ nP 4 24 ∧ hpN h ≤ su ∧ hpN h ≤ ca ∧ su < hpN hZ ∧ hpS hZ su = (15, 5) ∧ hpR hZ su 2 = ca ∧ AL hZ ca 0 f := by
  obtain ⟨su, hsu⟩ : ∃ su, su = hpN h := ⟨_, rfl⟩
  have G0 := (Gw.rf (h := h) (P := nP) 0 0).nw 15 5
  obtain ⟨h1, e1⟩ : ∃ h1, h1 = hpNew 15 5 h := ⟨_, rfl⟩
  rw [← e1] at G0
  have N1 : hpN h1 = hpN h + 1 := by rw [e1]; rfl
  have S1 : hpS h1 su = (15, 5) := by rw [e1, hsu, nw_S, if_pos rfl]
  -- its rows
  obtain ⟨h2, e2⟩ : ∃ h2, h2 = setR (hpNew 50 8 h1) su (updA (hpR (hpNew 50 8 h1) su) 0 (hpN h1)) := ⟨_, rfl⟩
  have k15 : ∀ {g : Hp}, hpS g su = (15, 5) → (hpS g su).1 = 14 + 1 ∧ ¬ txk g su := fun {g} hg => ⟨by rw [hg], fun z => by unfold txk at z; rw [hg] at z; have z : (15 : Nat) = 17 ∨ (15 : Nat) = 18 := z; omega⟩
  have S1' : hpS (hpNew 50 8 h1) su = (15, 5) := by rw [nw_S, if_neg (by omega)]; exact S1
  have G2 : Gw h h2 nP 2 13 := by
    rw [e2]
    exact (G0.nw 50 8).sR (fun z => by omega) (fun z => absurd z (k15 S1').2)
  have S2 : ∀ b, hpS h2 b = hpS (hpNew 50 8 h1) b := fun b => by rw [e2]; rfl
  have N2 : hpN h2 = hpN h + 2 := by rw [e2]; show hpN h1 + 1 = _; omega
  have S2s : hpS h2 su = (15, 5) := by rw [S2]; exact S1'
  obtain ⟨h3, e3⟩ : ∃ h3, h3 = setR (hpNew 50 8 h2) su (updA (hpR (hpNew 50 8 h2) su) 1 (hpN h2)) := ⟨_, rfl⟩
  have S2' : hpS (hpNew 50 8 h2) su = (15, 5) := by rw [nw_S, if_neg (by omega)]; exact S2s
  have G3 : Gw h h3 nP 3 21 := by
    rw [e3]
    exact (G2.nw 50 8).sR (fun z => by omega) (fun z => absurd z (k15 S2').2)
  have N3 : hpN h3 = hpN h + 3 := by rw [e3]; show hpN h2 + 1 = _; omega
  have S3s : hpS h3 su = (15, 5) := by rw [e3]; exact S2'
  -- its list
  obtain ⟨ca, hca⟩ : ∃ ca, ca = hpN h3 := ⟨_, rfl⟩
  have k19 : (hpS (hpNew 19 3 h3) ca).1 = 18 + 1 := by rw [hca, nw_S, if_pos rfl]
  have n19 : ∀ {g : Hp}, (∀ b, hpS g b = hpS (hpNew 19 3 h3) b) → ¬ txk g ca := fun {g} hg z => by unfold txk at z; rw [hg, k19] at z; omega
  obtain ⟨h4, e4⟩ : ∃ h4, h4 = setI (hpNew 19 3 h3) ca (updA (hpI (hpNew 19 3 h3) ca) 0 0) := ⟨_, rfl⟩
  obtain ⟨h5, e5⟩ : ∃ h5, h5 = setR h4 ca (updA (hpR h4 ca) 1 4) := ⟨_, rfl⟩
  have S4 : ∀ b, hpS h4 b = hpS (hpNew 19 3 h3) b := fun b => by rw [e4]; rfl
  have S5 : ∀ b, hpS h5 b = hpS (hpNew 19 3 h3) b := fun b => by rw [e5]; exact S4 b
  have S5s : hpS h5 su = (15, 5) := by rw [S5, nw_S, if_neg (by omega)]; exact S3s
  have G5 : Gw h h5 nP 4 24 := by
    rw [e5]
    refine Gw.sR ?_ (fun z => by omega) (fun z => absurd z (n19 S4))
    rw [e4]
    exact (G3.nw 19 3).sI (fun z => by omega)
  obtain ⟨hZ, eZ⟩ : ∃ hZ, hZ = setR h5 su (updA (hpR h5 su) 2 ca) := ⟨_, rfl⟩
  have GZ : Gw h hZ nP 4 24 := by
    rw [eZ]
    exact G5.sR (fun z => by omega) (fun z => absurd z (k15 S5s).2)
  have NZ : hpN hZ = hpN h + 4 := by rw [eZ, e5, e4]; show hpN h3 + 1 = _; omega
  have nes : ca ≠ su := by omega
  refine ⟨hZ, su, ca, fun K => ?_, GZ, by omega, by omega, by omega, by rw [eZ]; exact S5s, by rw [eZ, setR_R, if_pos rfl, updA_same], by omega, by omega, ?_, ?_, by omega, Or.inl ⟨rfl, ?_⟩⟩
  · unfold mX14_init mJx4a65c_init_da8c8 mJxc12de_init_da8c8 mJxa1e45_init_da8c8
    have C1 := hC.ex G0
    have C2 := hC.ex G2
    have C3 := hC.ex G3
    rw [newO_ok 14 5 hC.1, b2s, ← e1, ← hsu, newA_ok 50 8 C1.1, b2s, sR_ok (by exact (k15 S1').1), obind, ← e2, newA_ok 50 8 C2.1, b2s, sR_ok (by exact (k15 S2').1), obind, ← e3, newO_ok 18 3 C3.1, b2s, ← hca, obind, sI_ok (by exact k19), obind, obind, ← e4, sR_ok (by rw [S4]; exact k19), obind, obind, ← e5, sR_ok (by exact (k15 S5s).1), obind, obind, ← eZ]
  · rw [eZ]; show hpS h5 ca = _; rw [S5, hca, nw_S, if_pos rfl]
  · rw [eZ]; show hpI h5 ca 2 = _; rw [e5]; show hpI h4 ca 2 = _; rw [e4, setI_I, if_pos rfl, updA_ne _ _ (by omega), hca, nw_I0]; rfl
  · rw [eZ, setR_R, if_neg nes, e5, setR_R, if_pos rfl, updA_same]
/-- told -/
theorem l_told (w : LWs (hk σ I L) oa na ma ua su) (li : LWi (hk σ I L) n F nl) (hC : CLO (hk σ I L)) (hA : AL (hk σ I L) na q f) (cx : CXX σ I L) (hm1 : 1 ≤ most) (hm8 : most ≤ 8) (hcn : cnts ≤ 5) (hn : n + 7000 < 1000000000) :
    ∃ h' su', mL_told 99 (nI most) (nI cnts) (hk σ I L) = some (1, h') ∧ TD (hk σ I L) h' oa na ma ua su' (n + 1500) 19000 1900000 := by
  obtain ⟨h0, hh0⟩ : ∃ h0, h0 = hk σ I L := ⟨_, rfl⟩
  rw [← hh0] at w li hC hA ⊢
  have h433 := w.1
  have k16 : (hpS h0 99).1 = 16 := w.k99
  obtain ⟨e1, ub, x1⟩ := ub_ok hC h433
  obtain ⟨hA1, ehA⟩ : ∃ hA1, hA1 = hpNew 17 4 h0 := ⟨_, rfl⟩
  rw [← ehA] at e1 ub x1
  have q0 : TQ h0 oa na ma ua su n F nl := ⟨w, li, hC⟩
  have q1 := q0.np x1
  obtain ⟨z2, h2, j, n2, e2, st2, hn2, w2, li2, C2, g2⟩ := gap_ok q1.1 q1.2.1 q1.2.2 (by omega)
  have q2 : TQ h2 oa na ma ua su n2 F nl := ⟨w2, li2, C2⟩
  have ub2 := ub.gk g2 (by decide)
  have gl := (gap_tp j).2
  obtain ⟨h3, e3, sb3, x3⟩ := inis_ok C2 ub2 (st2 h2) (by omega)
  have g3 : GK [17] h2 h3 _ _ := GK.of x3 (fun a _ z => by rw [z]; exact Or.inr ⟨ub2.1, by rw [ub2.2.2.1]; decide⟩)
  have q3 := q2.gk g3 (by decide)
  obtain ⟨v7, h4, hv7, e4, q4, g4⟩ := q3.draw (by omega) (m := most) (by omega) (by omega)
  obtain ⟨F', hF⟩ : ∃ F', F' = 1 + v7 := ⟨_, rfl⟩
  have F1 : 1 ≤ F' := by omega
  have F8 : F' ≤ 8 := by omega
  -- its numbers
  have k4 := q4.1.k99
  obtain ⟨h5, e5⟩ : ∃ h5, h5 = setI h4 99 (updA (hpI h4 99) 3 (nI F')) := ⟨_, rfl⟩
  obtain ⟨h6, e6⟩ : ∃ h6, h6 = setI h5 99 (updA (hpI h5 99) 5 0) := ⟨_, rfl⟩
  obtain ⟨h7, e7⟩ : ∃ h7, h7 = setI h6 99 (updA (hpI h6 99) 4 300) := ⟨_, rfl⟩
  have k5 : (hpS h5 99).1 = 15 + 1 := by rw [e5]; exact k4
  have k6 : (hpS h6 99).1 = 15 + 1 := by rw [e6]; exact k5
  have k7 : (hpS h7 99).1 = 15 + 1 := by rw [e7]; exact k6
  have g7 : GK [16] h4 h7 0 0 := by
    rw [e7, e6, e5]
    exact GK.tr (GK.tr (GK.setI (Or.inl rfl) (by rw [k4]; decide) _ (fun _ => by decide)) (GK.setI (Or.inl rfl) (by show (hpS h4 99).1 ∈ _; rw [k4]; decide) _ (fun _ => by decide))) (GK.setI (Or.inl rfl) (by show (hpS h4 99).1 ∈ _; rw [k4]; decide) _ (fun _ => by decide))
  have q7 : TQ h7 oa na ma ua su (n2 + 1) F' 0 := by
    refine ⟨by rw [e7, e6, e5]; exact ((q4.1.dr _).dr _).dr _, ?_, q4.2.2.ex g7⟩
    unfold LWi
    rw [e7, setI_I, if_pos rfl, updA_ne _ _ (by omega), updA_ne _ _ (by omega), updA_ne _ _ (by omega), e6, setI_I, if_pos rfl, updA_ne _ _ (by omega), updA_ne _ _ (by omega), updA_same, e5, setI_I, if_pos rfl, updA_ne _ _ (by omega), updA_same]
    exact ⟨q4.2.1.1, rfl, rfl⟩
  have A7 := (((((hA.gk (x1.gk0 []) (by decide)).gk g2 (by decide)).gk g3 (by decide)).gk g4 (by decide)).gk g7 (by decide))
  have hnu : na ≠ ua := w.2.2.2.2.2.2
  obtain ⟨h8, e8, A8, L8⟩ := A7.clr q7.1 q7.2.1 q7.2.2 hnu
  have q8 : TQ h8 oa na ma ua su (n2 + 1) F' 0 := ⟨L8.W, L8.Li, L8.Cl⟩
  obtain ⟨h9, su', ca, e9, x9, hsu, hca, suN, sS9, sR9, A9⟩ := suit_mk (f := fun _ => 0) q8.2.2 q8.1.1
  have q9 := q8.np x9
  have A9n := (A8 (fun _ => 0)).gk (x9.gk0 []) (by decide)
  have k9 := q9.1.k99
  obtain ⟨hB, eB⟩ : ∃ hB, hB = setR h9 99 (updA (hpR h9 99) 9 su') := ⟨_, rfl⟩
  obtain ⟨hD, eD⟩ : ∃ hD, hD = setR hB 99 (updA (hpR hB 99) 10 0) := ⟨_, rfl⟩
  have kB : (hpS hB 99).1 = 15 + 1 := by rw [eB]; exact k9
  have kD : (hpS hD 99).1 = 15 + 1 := by rw [eD]; exact kB
  have gD : GK [16] h9 hD 0 0 := by
    rw [eD, eB]
    exact GK.tr (GK.setR99 k9 (by decide) _) (GK.setR99 (by exact k9) (by decide) _)
  have qD : TQ hD oa na ma ua su' (n2 + 1) F' 0 := by
    refine ⟨?_, ?_, q9.2.2.ex gD⟩
    · rw [eD]
      refine LWs.r10 ?_ 0
      rw [eB]
      exact q9.1.r9 su'
    · rw [eD, eB]; exact q9.2.1
  obtain ⟨hE, eE, wE, liE, CE, xE, bE⟩ := clr_ua qD.1 qD.2.1 qD.2.2
  have qE : TQ hE oa na ma ua su' (n2 + 1) F' 0 := ⟨wE, liE, CE⟩
  obtain ⟨ua1, ua2, ua3, _⟩ := qD.1.2.2.2.2.2.1
  have gE : GK [19] hD hE 0 0 := GK.of xE (fun a _ z => by rw [z]; exact Or.inr ⟨ua1, by rw [ua3]; decide⟩)
  have nE : hpN hE = hpN hD := by have := xE.1; omega
  have uaN : ua < hpN h8 := q8.1.2.2.2.2.2.1.2.1
  have naN : na < hpN h8 := (A8 (fun _ => 0)).2.1
  have cau : ca ≠ ua := by omega
  have can : ca ≠ na := by omega
  have suu : su' ≠ ua := by omega
  have sun : su' ≠ na := by omega
  have AEn : AL hE na 0 (fun _ => 0) := (A9n.gk gD (by decide)).kp nE (fun a _ => ⟨(bE a).1, (bE a).2.1⟩) ((bE na).2.2 hnu)
  have AEc : AL hE ca 0 (fun _ => 0) := (A9.gk gD (by decide)).kp nE (fun a _ => ⟨(bE a).1, (bE a).2.1⟩) ((bE ca).2.2 cau)
  have smD := gD.sm' suN (by have := q8.1.1; omega) (by rw [sS9]; decide)
  have UE : SUI hE su' ca na ua 0 := ⟨⟨by have := q8.1.1; omega, by rw [nE]; have := gD.le; omega, by rw [(bE su').1, smD.1]; exact sS9, by rw [(bE su').2.1, smD.2.2.2]; exact sR9, cau, can⟩, _, AEc⟩
  have VE : NV hE na F' 0 (fun _ => 0) (fun _ => lfT 2 0) := ⟨AEn, fun i hi => absurd hi (Nat.not_lt_zero _)⟩
  -- the builder all the while
  have tbs : SB hE (hpN h0) (gapT j) := gE.sb (gD.sb ((x9.gk0 []).sb (L8.G.sb (g7.sb (g4.sb sb3 (by decide) (by decide)) (by decide) (by decide)) (by decide) (by decide)) (by decide) (by decide)) (by decide) (by decide)) (by decide) (by decide)
  have Gt : Gw h0 hE PL 7 60 := by
    have a1 := (x1.gk0 []).pl
    have a2 := a1.tr g2.pl (fun _ _ z => z)
    have a3 := a2.tr g3.pl (fun _ _ z => z)
    have a4 := a3.tr g4.pl (fun _ _ z => z)
    have a7 := a4.tr g7.pl (fun _ _ z => z)
    have a8 := a7.tr L8.G.pl (fun _ _ z => z)
    have a9 := a8.tr (x9.gk0 []).pl (fun _ _ z => z)
    have aD := a9.tr gD.pl (fun _ _ z => z)
    have aE := aD.tr gE.pl (fun _ _ z => z)
    exact aE.up (fun _ _ z => z) (by omega) (by omega)
  have KT : KTX h0 (hpN h0) oa na ma ua su' F' := by
    intro h n nl t R v c s T hA v1
    obtain ⟨q', f', A'⟩ := hA
    rw [hh0] at T ⊢
    exact k_text (by rw [← hh0]; exact h433) cx T A' v1
  obtain ⟨o, eo, ho⟩ := l68_ok (tb := hpN h0) qE (nI cnts) (fun o => ∃ h', o = (1, h') ∧ TD h0 h' oa na ma ua su' (n + 1500) 19000 1900000) (fun h' q' g' => by
    have T' : TT h0 h' (hpN h0) oa na ma ua su' (n2 + 1) F' 0 (gapT j) [] (vFc 0) 7 60 := ⟨q', g'.sb tbs (by decide) (by decide), ⟨Nat.zero_le _, by omega⟩, (gap_tp j).1, LZ.nil v00, Gt.tr g'.pl (fun _ _ z => z)⟩
    obtain ⟨hf, ef, td⟩ := l109_ok KT T' (UE.gk g' (by decide)) (VE.gk g' (by decide)) hnu sun F1 F8 (by omega) hcn gl
    exact ⟨(1, hf), ef, hf, rfl, td.up (by omega) (by omega) (by omega)⟩)
  obtain ⟨hf, rfl, td⟩ := ho
  refine ⟨hf, su', ?_, td⟩
  have r7 : hpR h7 99 7 = na := q7.1.2.1.2.2.2.2.1
  have r11 : hpR hD 99 11 = ua := qD.1.2.1.2.2.2.2.2.2.1
  unfold mL_told
  rw [if_pos k16, e1, b2s, e2, b2s, e3, obind, e4, b2s, show (1 : Int32) + nI v7 = nI F' by rw [hF, show (1 : Int32) = nI 1 from rfl, nI_add], sI_ok k4, obind, ← e5, sI_ok k5, obind, ← e6, sI_ok k6, obind, ← e7, gR_ok k7, obind, r7, e8, obind, e9, sR_ok k9, obind, ← eB, sR_ok kB, obind, ← eD, gR_ok kD, obind, r11, eE, obind, eo]
end JE
