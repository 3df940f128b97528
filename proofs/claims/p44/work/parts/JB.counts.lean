/-! TOLD: all its counts -/
section JB
variable {h h' h0 h00 h1 h2 h3 : Hp} {P P' : Nat → Prop} {c c' s s' z a b n n' x y m F q oa na ma ua su ca nl lo d w e tb k S cn c0 s0 cnts J C s2 x5 x6 bb lb r : Nat} {t u t1 : List Nat} {l l' : List Nat} {f g : Nat → Nat} {R Rk Rb : List (Nat × Nat)} {v v' : Vt}
theorem tp_count {k w r : Nat} (hk : k < 5) (hw : w < 1000) (hr : r < 1000) : Tp ((((([] ++ [99, 111, 117, 110, 116, 32]) ++ [99, 97 + k]) ++ [32, 119, 111, 114, 116, 104, 32]) ++ dcm w) ++ [32, 97, 114, 111, 115, 101, 32] ++ dcm r) [(258, wpk countW), (2, 97 + k), (259, wpk worthW), (3, w), (260, wpk aroseW), (3, r)] := by
  have h1 : Tp countW [(258, wpk countW)] := Tp.lit (by decide +kernel)
  have h2 := (h1.appF (TpF.sp (c := 32) (Or.inl rfl)) (by decide) (by decide)).appT (Tp.count hk)
  have w1 : Tp worthW [(259, wpk worthW)] := Tp.lit (by decide +kernel)
  have w2 := ((TpF.sp (c := 32) (Or.inl rfl)).appT w1).appF (TpF.sp (c := 32) (Or.inl rfl)) (by decide) (by decide)
  have a1 : Tp aroseW [(260, wpk aroseW)] := Tp.lit (by decide +kernel)
  have a2 := ((TpF.sp (c := 32) (Or.inl rfl)).appT a1).appF (TpF.sp (c := 32) (Or.inl rfl)) (by decide) (by decide)
  have h3 := (h2.appF w2 (by decide) (by decide)).appT (Tp.nm hw)
  exact (h3.appF a2 (by decide) (by decide)).appT (Tp.nm hr)
theorem b444_ok (KT : KTX h00 tb oa na ma ua su F) (T : TT h00 h0 tb oa na ma ua su n F nl t R v c s) (hU : SUI h0 su ca na ua k) (hA : ∃ q f, AL h0 na q f) (hv : CV v F k) (hk : k < 5) (F1 : 1 ≤ F) (F8 : F ≤ 8) (hn' : n' ≤ n + 6) (hn : n + 500 < 1000000000) (hm : 1 ≤ m ∧ m ≤ 3) (hbb : bb ≤ 1) (hw : w ≤ 999)
    (E : GK [16] h0 h c0 s0) (hc0 : c0 ≤ 10) (hs0 : s0 ≤ 20) (q : TQ h oa na ma ua su n' F nl) (h5 : A73 h x5 m) (h50 : hpN h0 ≤ x5) (h6 : A73 h x6 bb) (x2 : Int32) :
    ∃ o, mL_told_b444 99 x2 tb (nI k) x5 x6 (nI w) h = some o ∧ OUT h00 tb oa na ma ua su ca F k (n + 250) (c + 3000) (s + 300000) o := by
  obtain ⟨r, h1, hr, e1, q1, g1⟩ := q.draw (by omega) (m := 700) (by omega) (by omega)
  have e1 : mL_draw 99 (700 : Int32) h = some (nI r, h1) := e1
  obtain ⟨e2, ub, ex2⟩ := ub_ok q1.2.2 q1.1.1
  obtain ⟨h60, hh60⟩ : ∃ h60, h60 = hpNew 17 4 h1 := ⟨_, rfl⟩
  rw [← hh60] at e2 ub ex2
  have q60 := q1.np ex2
  have E60 := GK.tr (GK.tr E g1) (ex2.gk0 _)
  obtain ⟨h3, e3, b3⟩ := BW.new q60
  obtain ⟨h4, e4, b4⟩ := b3.app (u := [99, 111, 117, 110, 116, 32]) st25 (by decide)
  obtain ⟨z5, h5', e5, st5, x5'⟩ := w_count b4.2.2.2 (k := k) (by omega)
  have b5 := b4.np x5'
  obtain ⟨h6', e6, b6⟩ := b5.app st5 (by show 6 + 2 ≤ 600; omega)
  obtain ⟨h7, e7, b7⟩ := b6.app (u := [32, 119, 111, 114, 116, 104, 32]) st27 (by show 8 + 7 ≤ 600; omega)
  obtain ⟨h8, e8, b8⟩ := b7.num (v := w) (by omega) (by show 15 + 3 ≤ 600; omega)
  have dw := dig_le w
  have dr := dig_le r
  have l8 : ((((([] ++ [99, 111, 117, 110, 116, 32]) ++ [99, 97 + k]) ++ [32, 119, 111, 114, 116, 104, 32]) ++ dcm w)).length ≤ 18 := by rw [List.length_append]; show 15 + _ ≤ 18; omega
  obtain ⟨h9, e9, b9⟩ := b8.app (u := [32, 97, 114, 111, 115, 101, 32]) st28 (by show _ + 7 ≤ 600; omega)
  have l9 : ((((([] ++ [99, 111, 117, 110, 116, 32]) ++ [99, 97 + k]) ++ [32, 119, 111, 114, 116, 104, 32]) ++ dcm w) ++ [32, 97, 114, 111, 115, 101, 32]).length ≤ 25 := by rw [List.length_append]; show _ + 7 ≤ 25; omega
  obtain ⟨hA', eA, bA⟩ := b9.num (v := r) (by omega) (by omega)
  have lA : (((((([] ++ [99, 111, 117, 110, 116, 32]) ++ [99, 97 + k]) ++ [32, 119, 111, 114, 116, 104, 32]) ++ dcm w) ++ [32, 97, 114, 111, 115, 101, 32]) ++ dcm r).length ≤ 28 := by rw [List.length_append]; omega
  obtain ⟨zB, hB, eB, stB, gB, qB⟩ := bA.tos (by omega)
  have ubB := ub.gk gB (by decide)
  obtain ⟨hC, eC, sbC, exC⟩ := inis_ok qB.2.2 ubB stB (by omega)
  have v61 : hpN h1 < hpN h60 := by rw [hh60]; show _ < hpN h1 + 1; omega
  have gC : GK [17] hB hC _ _ := GK.of exC (fun a _ z => by rw [z]; exact Or.inr ⟨ubB.1, by rw [ubB.2.2.1]; decide⟩)
  have qC := qB.gk gC (by decide)
  have EB := GK.tr E60 gB
  have lE := (GK.tr E g1).le
  have EC := Gw.tr EB exC (fun a ha z => by omega)
  have bw : BW h0 hC (hpN h1) _ _ _ oa na ma ua su (n' + 1) F nl := ⟨lE, sbC, EC, qC⟩
  have a5 := ((((h5.gk g1 (by decide)).1.gk (ex2.gk0 []) (by decide)).1.gk gB (by decide)).1.gk gC (by decide)).1
  have a6 := ((((h6.gk g1 (by decide)).1.gk (ex2.gk0 []) (by decide)).1.gk gB (by decide)).1.gk gC (by decide)).1
  obtain ⟨o, eo, ho⟩ := l510_ok KT T hU hA hv hk F1 F8 (by omega) hn hm hbb hw (r := r) (by omega) bw (by omega) (by omega) a5 h50 a6 (by omega) x2 (tp_count hk (by omega) (by omega))
  refine ⟨o, ?_, ho⟩
  unfold mL_told_b444
  rw [e1, b2s, e2, b2s, e3, e4, b2s, e5, b2s, e6, b2s, e7, b2s, e8, b2s, e9, b2s, eA, b2s, eB, b2s, eC, obind]
  exact eo
theorem l390_ok (KT : KTX h00 tb oa na ma ua su F) (T : TT h00 h tb oa na ma ua su n F nl t R v c s) (hU : SUI h su ca na ua 0) (hA : ∃ q f, AL h na q f) (hv : CV v F 0) (F1 : 1 ≤ F) (F8 : F ≤ 8) (hn : n + 3000 < 1000000000) (hcn : cnts ≤ 5) :
    ∃ h', mL_told_l390 99 (nI cnts) tb (0 : Int32) h = some (1, h') ∧ TD h00 h' oa na ma ua su (n + 1300) (c + 15002) (s + 1501000) := by
  unfold mL_told_l390
  obtain ⟨o, eo, h', rfl, td⟩ := lp_invX (f := fun s : (Int32 × Hp) => mL_told_l390f 99 (nI cnts) tb s.1 s.2) cnts
    (fun k st => ∃ h' n' v' nl' t' R', st = (nI k, h') ∧ n' ≤ n + 250 * k ∧ TT h00 h' tb oa na ma ua su n' F nl' t' R' v' (c + 3000 * k) (s + 300000 * k) ∧ SUI h' su ca na ua k ∧ (∃ q f, AL h' na q f) ∧ CV v' F k)
    (fun o => ∃ h', o = (1, h') ∧ TD h00 h' oa na ma ua su (n + 1300) (c + 15002) (s + 1501000))
    (fun k st hk hQ => by
      obtain ⟨h0, n0, v0, nl0, t0, R0, rfl, hn0, T0, U0, A0, V0⟩ := hQ
      have q0 := T0.1
      obtain ⟨j1, h1, hj1, e1, q1, g1⟩ := q0.draw (by omega) (m := 3) (by omega) (by omega)
      have e1 : mL_draw 99 (3 : Int32) h0 = some (nI j1, h1) := e1
      have X1 := (Gw.rf (h := h1) (P := nP) 0 0).nw 73 (1 + j1)
      have E1 := GK.tr g1 (X1.gk0 [16])
      have q1' := q1.np X1
      have a51 : A73 (hpNew 73 (1 + j1) h1) (hpN h1) (1 + j1) := ⟨q1.1.1, by rw [nw_N]; omega, by rw [nw_S, if_pos rfl]⟩
      obtain ⟨bb, h2, hbb, e2, q2, g2⟩ := q1'.draw (by omega) (m := 2) (by omega) (by omega)
      have e2 : mL_draw 99 (2 : Int32) (hpNew 73 (1 + j1) h1) = some (nI bb, h2) := e2
      have a52 := (a51.gk g2 (by decide)).1
      have X2 := (Gw.rf (h := h2) (P := nP) 0 0).nw 73 bb
      have E2 := GK.tr (GK.tr E1 g2) (X2.gk0 [16])
      have q2' := q2.np X2
      have a53 := (a52.gk (X2.gk0 []) (by decide)).1
      have a63 : A73 (hpNew 73 bb h2) (hpN h2) bb := ⟨q2.1.1, by rw [nw_N]; omega, by rw [nw_S, if_pos rfl]⟩
      obtain ⟨j3, h3, hj3, e3, q3, g3⟩ := q2'.draw (by omega) (m := 2) (by omega) (by omega)
      have e3 : mL_draw 99 (2 : Int32) (hpNew 73 bb h2) = some (nI j3, h3) := e3
      have a54 := (a53.gk g3 (by decide)).1
      have a64 := (a63.gk g3 (by decide)).1
      have E3 := GK.tr E2 g3
      have l1 := g1.le
      have fin : ∀ {h4 : Hp} {w n4 : Nat}, w ≤ 999 → GK [16] h3 h4 0 0 → TQ h4 oa na ma ua su n4 F nl0 → n4 ≤ n0 + 6 → mL_told_l390f 99 (nI cnts) tb (nI k) h0 = mL_told_b444 99 (nI cnts) tb (nI k) (hpN h1) (hpN h2) (nI w) h4 →
          (∃ t, mL_told_l390f 99 (nI cnts) tb (nI k) h0 = some (.inl t) ∧ ∃ h' n' v' nl' t' R', t = (nI (k + 1), h') ∧ n' ≤ n + 250 * (k + 1) ∧ TT h00 h' tb oa na ma ua su n' F nl' t' R' v' (c + 3000 * (k + 1)) (s + 300000 * (k + 1)) ∧ SUI h' su ca na ua (k + 1) ∧ (∃ q f, AL h' na q f) ∧ CV v' F (k + 1)) ∨ ∃ r, mL_told_l390f 99 (nI cnts) tb (nI k) h0 = some (.inr r) ∧ ∃ h', r = (1, h') ∧ TD h00 h' oa na ma ua su (n + 1300) (c + 15002) (s + 1501000) := by
        intro h4 w n4 hw g4 q4 hn4 go
        obtain ⟨o, eo, ho⟩ := b444_ok KT T0 U0 A0 V0 (by omega) F1 F8 hn4 (by omega) (m := 1 + j1) (bb := bb) (by omega) (by omega) hw (GK.tr E3 g4) (by omega) (by omega) q4 (a54.gk g4 (by decide)).1 l1 (a64.gk g4 (by decide)).1 (nI cnts)
        rcases ho with ⟨h', n', v', nl', t', R', rfl, r1, r2, r3⟩ | ⟨h', rfl, r1⟩
        · have m1 : 250 * (k + 1) = 250 * k + 250 := Nat.mul_succ _ _
          have m2 : c + 3000 * k + 3000 ≤ c + 3000 * (k + 1) := by rw [Nat.mul_succ, Nat.add_assoc]; exact Nat.le_refl _
          have m3 : s + 300000 * k + 300000 ≤ s + 300000 * (k + 1) := by rw [Nat.mul_succ, Nat.add_assoc]; exact Nat.le_refl _
          have m4 : n' ≤ n + 250 * (k + 1) := Nat.le_trans r1 (by rw [m1, ← Nat.add_assoc]; exact Nat.add_le_add_right hn0 250)
          exact Or.inl ⟨(nI (k + 1), h'), by rw [go, eo], h', n', v', nl', t', R', rfl, m4, r2.up m2 m3, r3⟩
        · exact Or.inr ⟨_, by rw [go, eo], h', rfl, r1.up (by omega) (by omega) (by omega)⟩
      have pre : mL_told_l390f 99 (nI cnts) tb (nI k) h0 = if nI j3 = 0 then (b2 (mL_draw 99 (4 : Int32) h3) fun v208 h209 => mL_told_b444 99 (nI cnts) tb (nI k) (hpN h1) (hpN h2) ((10 : Int32) * v208) h209) else (b2 (mL_draw 99 (1000 : Int32) h3) fun v56 h57 => mL_told_b444 99 (nI cnts) tb (nI k) (hpN h1) (hpN h2) v56 h57) := by
        unfold mL_told_l390f
        rw [c_lt hk (by omega), e1, b2s, show (1 : Int32) = nI 1 from rfl, nI_add, newV_ok 73 q1.2.2.1 (by omega), b2s, e2, b2s, newV_ok 73 q2.2.2.1 (by omega), b2s, e3, b2s]
      by_cases q : j3 = 0
      · obtain ⟨j4, h4, hj4, e4, q4, g4⟩ := q3.draw (by omega) (m := 4) (by omega) (by omega)
        have e4 : mL_draw 99 (4 : Int32) h3 = some (nI j4, h4) := e4
        refine fin (w := 10 * j4) (by omega) g4 q4 (by omega) ?_
        rw [pre, c_0 (by omega), if_pos q, e4, b2s, show (10 : Int32) = nI 10 from rfl, pk_mul]
      · obtain ⟨j4, h4, hj4, e4, q4, g4⟩ := q3.draw (by omega) (m := 1000) (by omega) (by omega)
        have e4 : mL_draw 99 (1000 : Int32) h3 = some (nI j4, h4) := e4
        refine fin (w := j4) (by omega) g4 q4 (by omega) ?_
        rw [pre, c_0 (by omega), if_neg q, e4, b2s])
    (fun st hQ => by
      obtain ⟨h0, n0, v0, nl0, t0, R0, rfl, hn0, T0, U0, A0, V0⟩ := hQ
      obtain ⟨h', e', td⟩ := KT T0 A0 V0.1
      refine ⟨(1, h'), ?_, h', rfl, td.up (by omega) (by omega) (by omega)⟩
      show mL_told_l390f 99 (nI cnts) tb (nI cnts) h0 = _
      unfold mL_told_l390f
      rw [c_nlt (Nat.le_refl _) (by omega), e', xts])
    (i := 0) (s := ((0 : Int32), h)) (Nat.zero_le _) ⟨h, n, v, nl, t, R, rfl, by omega, T.up (by omega) (by omega), hU, hA, hv⟩
  exact ⟨h', eo, td⟩
end JB
