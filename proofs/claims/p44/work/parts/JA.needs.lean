/-! TOLD: a count's own line; all counts -/
section JA
variable {h h' h0 h00 h1 h2 h3 : Hp} {P P' : Nat → Prop} {c c' s s' z a b n n' x y m F q oa na ma ua su ca nl lo d w e tb k S cn c1 s1 cnts J C s2 x5 x6 bb lb r : Nat} {t u t1 : List Nat} {l l' : List Nat} {f g : Nat → Nat} {R Rk Rb : List (Nat × Nat)} {v v' : Vt}
theorem kN_cg {vN : Nat} {d : Nat} {p p' : Nat → Tr d} : ∀ (q j : Nat), (∀ x, j ≤ x → x < j + q → p x = p' x) → kN vN p j q = kN vN p' j q
  | 0, _, _ => rfl
  | q + 1, j, h => by
    show (261, vN) :: (kA d (p j) ++ kN vN p (j + 1) q) = (261, vN) :: (kA d (p' j) ++ kN vN p' (j + 1) q)
    rw [h j (Nat.le_refl _) (by omega), kN_cg q (j + 1) (fun x h1 h2 => h x (by omega) (by omega))]
theorem kN_snoc {vN : Nat} {d : Nat} {p : Nat → Tr d} : ∀ (q j : Nat), kN vN p j (q + 1) = kN vN p j q ++ ((261, vN) :: kA d (p (j + q)))
  | 0, j => by
    show (261, vN) :: (kA d (p j) ++ []) = [] ++ ((261, vN) :: kA d (p (j + 0)))
    rw [List.append_nil]; rfl
  | q + 1, j => by
    show (261, vN) :: (kA d (p j) ++ kN vN p (j + 1) (q + 1)) = ((261, vN) :: (kA d (p j) ++ kN vN p (j + 1) q)) ++ _
    rw [kN_snoc q (j + 1), show j + 1 + q = j + (q + 1) by omega, ← List.append_assoc]
    rfl
theorem UB.gk (hy : UB h y) (e : GK l h h1 c s) (h17 : 17 ∉ l) : UB h1 y := by
  obtain ⟨a1, a2, a3, a4, a5⟩ := hy
  have sm := e.sm' a2 (by omega) (by rw [a3]; exact h17)
  have le := e.le
  exact ⟨a1, by omega, by rw [sm.1]; exact a3, by rw [sm.2.1]; exact a4, by rw [sm.2.2.2]; exact a5⟩
theorem BW.from {c0 s0 : Nat} (e : GK [16] h0 h1 c0 s0) (b : BW h1 h x t c s oa na ma ua su n F nl) : BW h0 h x t (c0 + c) (s0 + s) oa na ma ua su n F nl :=
  ⟨by have := e.le; have := b.1; omega, b.2.1, GK.tr e b.2.2.1, b.2.2.2⟩
/-- a row written in a row of what is said -/
theorem put73 (q : TQ h oa na ma ua su n F nl) (hx : A73 h x m) (hi : a < m) (hm : m < 100) (hk : (hpS h y).1 = 14) :
    ∃ h', stR 13 x (nI a) y h = some h' ∧ TQ h' oa na ma ua su n F nl ∧ GK [73] h h' 0 0 ∧ A73 h' x m ∧ hpR h' x a = y ∧ (∀ z, z ≠ x → Sm h h' z) ∧ hpN h' = hpN h ∧ ∀ {h0 : Hp} {l : List Nat} {c s : Nat}, hpN h0 ≤ x → GK l h0 h c s → GK l h0 h' c s := by
  obtain ⟨a1, a2, a3⟩ := hx
  have nk : ¬ txk h x := fun z => by unfold txk at z; rw [a3] at z; have z : (73 : Nat) = 17 ∨ (73 : Nat) = 18 := z; omega
  have g1 : GK [73] h (setR h x (updA (hpR h x) a y)) 0 0 := GK.setR a1 (by rw [a3]; show 73 ∈ [73]; decide) (by decide) (by decide) _
  exact ⟨setR h x (updA (hpR h x) a y), stR_ok a3 hi (by omega) hk, ⟨q.1.sR (by omega) (ma_n q.1 (by rw [a3]; show 73 ≠ 79; omega)) (ua_n q.1 (by rw [a3]; show 73 ≠ 19; omega)) _, q.2.1, q.2.2.ex g1⟩, g1, ⟨a1, a2, a3⟩, by rw [setR_R, if_pos rfl, updA_same], fun z hz => ⟨rfl, rfl, rfl, by rw [setR_R, if_neg hz]⟩, rfl, fun hx e => e.sR (fun z => by omega) (fun z => absurd z nk)⟩
theorem BW.appG (b : BW h0 h x t c s oa na ma ua su n F nl) (hs : ST h z u) (hl : t.length + u.length ≤ 600) : ∃ h', mJ4_append_15ec4 x z h = some (x, h') ∧ BW h0 h' x (t ++ u) (c + 1) (s + 1202) oa na ma ua su n F nl ∧ GK [17, 53] h h' 1 1202 := by
  obtain ⟨b1, b2, b3, q⟩ := b
  obtain ⟨h', e, sb, ex⟩ := app_ok q.2.2 b2 hs (by omega)
  exact ⟨h', e, ⟨b1, sb, (Gw.tr b3 ex (fun a ha z => absurd z (own_new b3 b2 b1 a ha))).up (fun _ _ z => z) (Nat.le_refl _) (by omega), q.bd b2 ex⟩, (b2.gk ex).up (fun _ _ z => z) (Nat.le_refl _) (by omega)⟩
/-- the end of it all, at any time -/
def KTX (h00 : Hp) (tb oa na ma ua su F : Nat) : Prop := ∀ ⦃h : Hp⦄ ⦃n nl : Nat⦄ ⦃t : List Nat⦄ ⦃R : List (Nat × Nat)⦄ ⦃v : Vt⦄ ⦃c s : Nat⦄, TT h00 h tb oa na ma ua su n F nl t R v c s → (∃ q f, AL h na q f) → v.1 = F → ∃ h', mL_told_b947 99 tb h = some (1, h') ∧ TD h00 h' oa na ma ua su n (c + 2) (s + 1000)
theorem tp_need {j : Nat} {T : Tr 2} (ok : okT 8 2 T) : Tp ((gapT j ++ [32, 110, 101, 101, 100, 115, 32]) ++ tA 2 T) ((261, wpk needsW) :: kA 2 T) := by
  have h1 : Tp needsW [(261, wpk needsW)] := Tp.lit (by decide +kernel)
  have h2 := (TpF.sp (c := 32) (Or.inl rfl)).app (h1.appF (TpF.sp (c := 32) (Or.inl rfl)) (by decide) (by decide))
  have h3 := ((gap_tp j).1.app h2).appT (tp_tree ok)
  exact h3
theorem hd_need (j : Nat) {x : List Nat} : alnum (hdl ((gapT j ++ [32, 110, 101, 101, 100, 115, 32]) ++ x)) = false ∧ 1 ≤ ((gapT j ++ [32, 110, 101, 101, 100, 115, 32]) ++ x).length := by
  unfold gapT
  split
  · exact ⟨by show alnum 32 = false; decide, by show 1 ≤ _ + 1; omega⟩
  · split
    · exact ⟨by show alnum 10 = false; decide, by show 1 ≤ _ + 1; omega⟩
    · exact ⟨by show alnum 32 = false; decide, by show 1 ≤ _ + 1; omega⟩
/-- the needs, drawn and written -/
theorem l510_ok (KT : KTX h00 tb oa na ma ua su F) (T : TT h00 h0 tb oa na ma ua su n F nl t R v c s) (hU : SUI h0 su ca na ua k) (hA : ∃ q f, AL h0 na q f) (hv : CV v F k) (hk : k < 5) (F1 : 1 ≤ F) (F8 : F ≤ 8) (hn' : n' ≤ n + 8) (hn : n + 500 < 1000000000) (hm : 1 ≤ m ∧ m ≤ 3) (hbb : bb ≤ 1) (hw : w ≤ 999) (hr : r ≤ 999)
    (b : BW h0 h lb u c1 s1 oa na ma ua su n' F nl) (hc1 : c1 ≤ 100) (hs1 : s1 ≤ 30000) (h5 : A73 h x5 m) (h50 : hpN h0 ≤ x5) (h6 : A73 h x6 bb) (hu : u.length ≤ 30) (x2 : Int32) {v0 u1 u2 : Nat}
    (htp : Tp u [(258, v0), (2, 97 + k), (259, u1), (3, w), (260, u2), (3, r)]) :
    ∃ o, mL_told_l510 99 x2 tb (nI k) x5 x6 (nI w) (nI r) lb (0 : Int32) h = some o ∧ OUT h00 tb oa na ma ua su ca F k (n + 250) (c + 3000) (s + 300000) o := by
  obtain ⟨v1, v2, v3, v4⟩ := id hv
  have lA2 : lA 2 = 89 := rfl
  have c2' : cA 2 = 314 := rfl
  have s2' : sA 2 = 6120 := by decide
  unfold mL_told_l510
  obtain ⟨o, eo, ho⟩ := lp_inv (f := fun s : (Int32 × Hp) => mL_told_l510f 99 x2 tb (nI k) x5 x6 (nI w) (nI r) lb s.1 s.2) m
    (fun i st => ∃ h1 n1 t1, ∃ p : Nat → Tr 2, st = (nI i, h1) ∧ BW h0 h1 lb t1 (c1 + 400 * i) (s1 + 20000 * i) oa na ma ua su n1 F nl ∧ n1 ≤ n' + 30 * i ∧ t1.length ≤ u.length + 100 * i ∧ Tp t1 ([(258, v0), (2, 97 + k), (259, u1), (3, w), (260, u2), (3, r)] ++ kN (wpk needsW) p 0 i) ∧ (∀ j, j < i → okT F 2 (p j)) ∧ A73 h1 x5 m ∧ A73 h1 x6 bb)
    (fun o => OUT h00 tb oa na ma ua su ca F k (n + 250) (c + 3000) (s + 300000) o)
    (fun i st hi hQ => by
      obtain ⟨h1, n1, t1, p, rfl, b1, hn1, ht1, tp1, okp, a5, a6⟩ := hQ
      have q1 := b1.2.2.2
      obtain ⟨e, h2, he, e2, q2, g2⟩ := q1.draw (by omega) (m := 3) (by omega) (by omega)
      have e2 : mL_draw 99 (3 : Int32) h1 = some (nI e, h2) := e2
      have b2' := b1.dr g2 q2
      obtain ⟨y, h3, n3, Ty, e3, sa3, okT3, w3, li3, hn3, C3, g3⟩ := l_said (e := e) (by omega) q2.1 q2.2.1 q2.2.2 F1 F8 (by omega)
      have q3 : TQ h3 oa na ma ua su n3 F nl := ⟨w3, li3, C3⟩
      have b3 := b2'.dr g3 q3
      have a52 := (a5.gk g2 (by decide)).1
      have a53 := (a52.gk g3 (by decide)).1
      have a63 := ((a6.gk g2 (by decide)).1.gk g3 (by decide)).1
      obtain ⟨h4, e4, q4, g4, a54, r4, sm4, nz4, ex4⟩ := put73 q3 a53 hi (by omega) (y := y) (show (hpS h3 y).1 = 14 from (sa3.sa q2.1.1).hd.2.2.1)
      have b4 : BW h0 h4 lb t1 (c1 + 400 * i + 0 + 17) (s1 + 20000 * i + 0 + 51) oa na ma ua su n3 F nl := ⟨b3.1, g4.sb b3.2.1 (by decide) (by decide), ex4 h50 b3.2.2.1, q4⟩
      have sa4 : SA h4 2 y Ty := by
        have x52 := a52.2.1
        exact (SAl.keep (h := h3) (h' := h4) (by omega) (fun z hz _ _ => sm4 z (by omega)) sa3).sa q2.1.1
      have a64 : A73 h4 x6 bb := by
        obtain ⟨z1, z2, z3⟩ := a63
        by_cases q : x6 = x5
        · obtain ⟨y1, y2, y3⟩ := a54
          rw [q] at z3 ⊢
          have := a53.2.2
          rw [this] at z3
          exact ⟨y1, y2, by rw [y3]; exact z3⟩
        · have := sm4 x6 q
          exact ⟨z1, by omega, by rw [this.1]; exact z3⟩
      obtain ⟨z5, h5', j, n5, e5, st5, hn5, w5, li5, C5, g5⟩ := gap_ok q4.1 q4.2.1 q4.2.2 (by omega)
      have q5 : TQ h5' oa na ma ua su n5 F nl := ⟨w5, li5, C5⟩
      have b5 := b4.dr g5 q5
      have gl := (gap_tp j).2
      obtain ⟨h6', e6, b6, g6⟩ := b5.appG (st5 h5') (by omega)
      obtain ⟨h7, e7, b7, g7⟩ := b6.appG (u := [32, 110, 101, 101, 100, 115, 32]) st29 (by rw [List.length_append]; show _ + 7 ≤ 600; omega)
      obtain ⟨a55, r5⟩ := a54.gk g5 (by decide)
      obtain ⟨a56, r6⟩ := a55.gk g6 (by decide)
      obtain ⟨a57, r7⟩ := a56.gk g7 (by decide)
      have a67 := ((a64.gk g5 (by decide)).1.gk g6 (by decide)).1.gk g7 (by decide) |>.1
      have sa7 := g7.sa (g6.sa (g5.sa sa4 (by decide) (by decide)) (by decide) (by decide)) (by decide) (by decide)
      have ok8 := okT3.mono F8
      have tl := tA_len okT3
      obtain ⟨z8, h8, e8, st8, x8⟩ := l_all (Nat.le_refl 2) b7.2.2.2.2.2 b7.2.2.2.1.1 sa7 ok8
      have b8 := b7.np x8
      have lt7 : ((t1 ++ gapT j) ++ [32, 110, 101, 101, 100, 115, 32]).length ≤ u.length + 100 * i + 8 := by rw [List.length_append, List.length_append]; show _ + _ + 7 ≤ _; omega
      obtain ⟨h9, e9, b9, g9⟩ := b8.appG st8 (by omega)
      have a59 := ((a57.gk (x8.gk0 []) (by decide)).1.gk g9 (by decide)).1
      have a69 := ((a67.gk (x8.gk0 []) (by decide)).1.gk g9 (by decide)).1
      have et : (((t1 ++ gapT j) ++ [32, 110, 101, 101, 100, 115, 32]) ++ tA 2 Ty) = t1 ++ ((gapT j ++ [32, 110, 101, 101, 100, 115, 32]) ++ tA 2 Ty) := by rw [List.append_assoc, List.append_assoc, List.append_assoc]
      refine ⟨(nI (i + 1), h9), ?_, h9, n5, _, fun j => if j = i then Ty else p j, rfl, ⟨b9.1, b9.2.1, b9.2.2.1.up (fun _ _ z => z) (by omega) (by omega), b9.2.2.2⟩, by omega, by rw [List.length_append]; omega, ?_, fun j hj => ?_, a59, a69⟩
      · show mL_told_l510f 99 x2 tb (nI k) x5 x6 (nI w) (nI r) lb (nI i) h1 = _
        unfold mL_told_l510f
        rw [aLen_ok a5.2.2 (by decide), obind, c_lt hi (by omega), gI_ok q1.1.k99, obind, q1.2.1.2.1, e2, b2s, e3, b2s, e4, obind, e5, b2s, e6, b2s, e7, b2s, ldR_ok (n := m) a57.2.2 hi (by omega), obind, r7, r6, r5, r4, e8, b2s, e9, b2s, nI_1]
      · have hn := hd_need j (x := tA 2 Ty)
        have := tp1.app (tp_need (j := j) ok8) hn.2 hn.1
        rw [← et] at this
        rw [kN_snoc, Nat.zero_add, if_pos rfl, kN_cg (p := fun j => if j = i then Ty else p j) (p' := p) i 0 (fun x _ hx => if_neg (by omega)), ← List.append_assoc]
        exact this
      · by_cases q : j = i
        · show okT F 2 (if j = i then Ty else p j)
          rw [if_pos q]; exact okT3
        · show okT F 2 (if j = i then Ty else p j)
          rw [if_neg q]; exact okp j (by omega))
    (fun st hQ => by
      obtain ⟨h1, n1, t1, p, rfl, b1, hn1, ht1, tp1, okp, a5, a6⟩ := hQ
      have q1 := b1.2.2.2
      have lu : t1.length ≤ 600 := by omega
      obtain ⟨z, h2, e2, st2, ex2, _⟩ := tos_ok q1.2.2 b1.2.1 (by omega)
      have q2 := q1.np ex2
      have g02 := GK.tr b1.2.2.1 (ex2.gk0 _)
      have hY : LY (([(258, v0), (2, 97 + k), (259, u1), (3, w), (260, u2), (3, r)] ++ kN (wpk needsW) p 0 m) ++ [(59, 0)]) v (v.1, k + 1, v.2.2) := fun σ X n m' la s h1 h2 h3 h4 => by
        have := LN.count (σ := σ) (X := X) (n := n) (m := m') (v0 := v0) (v := v) (w := w) (r := r) (q := m) (u1 := u1) (u2 := u2) (vN := wpk needsW) (d := 2) (p := p) h1 h2 h3 h4 (Nat.le_refl 2) hw hr (by omega) hm.1 (by omega) (fun x hx => by rw [v1]; exact okp x hx)
        rw [v2] at this
        exact this
      have pre : ∀ {o}, (xt (b2 (mL_fits 99 tb z h2) fun v87 h88 => if v87 = 0 then (xt (mL_told_b947 99 tb h88)) else ((aLen x6 h88).bind fun v89 => if v89 = (1 : Int32) then ((gI 15 3 99 h88).bind fun v187 => b2 (mL_said 40 99 v187 (1 : Int32) h88) fun v188 h189 => (stR 13 x6 (0 : Int32) v188 h189).bind fun h190 => mL_told_b604 99 x2 tb (nI k) x5 x6 (nI w) (nI r) h190) else (mL_told_b604 99 x2 tb (nI k) x5 x6 (nI w) (nI r) h88)))) = o → mL_told_l510f 99 x2 tb (nI k) x5 x6 (nI w) (nI r) lb (nI m) h1 = o := fun {o} e => by
        unfold mL_told_l510f
        rw [aLen_ok a5.2.2 (by decide), obind, c_nlt (Nat.le_refl _) (by omega), e2, b2s]
        exact e
      rcases T.line g02 (by decide) q2 st2 lu tp1 hY (by omega) with ⟨k1, k2, k3⟩ | ⟨h3, n3, t3, R3, k2, k3, k3', k4, k5⟩
      · have A2 : ∃ q f, AL h2 na q f := by obtain ⟨q, f, A⟩ := hA; exact ⟨q, f, A.gk g02 (by decide)⟩
        obtain ⟨h', e', td⟩ := KT k3 A2 v1
        refine ⟨.inr (1, h'), pre ?_, Or.inr ⟨h', rfl, td.up (by omega) (by omega) (by omega)⟩⟩
        rw [k2, b2s, if_pos rfl, e', xts, xts]
      · have g03 : GK [16, 17, 53] h0 h3 _ _ := GK.tr (GK.mn g02 (l' := [16, 17, 53]) (fun k hk => by simp at hk ⊢; omega) (Nat.le_refl _) (Nat.le_refl _)) k5
        have U3 := hU.gk g03 (by decide)
        have A3 : ∃ q f, AL h3 na q f := by obtain ⟨q, f, A⟩ := hA; exact ⟨q, f, A.gk g03 (by decide)⟩
        have a63 := ((a6.gk (ex2.gk0 []) (by decide)).1.gk k5 (by decide)).1
        have V3 : CVs (v.1, k + 1, v.2.2) F k 0 := ⟨v1, rfl, by show v.2.2.2.1 ≤ k + 1; omega, fun x hx => v4 x (by omega), (v4 k (Nat.le_refl _)).2, (v4 k (Nat.le_refl _)).1, Nat.two_pow_pos _⟩
        by_cases q : bb = 1
        · subst q
          obtain ⟨y, h4, n4, Tb, e4, sa4, ok4, w4, li4, hn4, C4, g4⟩ := l_said (e := 1) (by omega) k4.1.1 k4.1.2.1 k4.1.2.2 F1 F8 (by omega)
          have q4 : TQ h4 oa na ma ua su n4 F (nl + 1) := ⟨w4, li4, C4⟩
          have T4 := TT.gk k4 g4 (by decide) q4
          have a64 := (a63.gk g4 (by decide)).1
          obtain ⟨h5', e5, q5, g5, a65, r5, sm5, nz5, _⟩ := put73 q4 a64 (a := 0) (by omega) (by omega) (y := y) (show (hpS h4 y).1 = 14 from (sa4.sa k4.1.1.1).hd.2.2.1)
          have T5 := TT.gk T4 g5 (by decide) q5
          have sa5 : SA h5' 2 y Tb := by
            have x63 := a63.2.1
            exact (SAl.keep (h := h4) (h' := h5') (by omega) (fun z hz _ _ => sm5 z (by omega)) sa4).sa k4.1.1.1
          have A5 : ∃ q f, AL h5' na q f := by obtain ⟨q, f, A⟩ := A3; exact ⟨q, f, (A.gk g4 (by decide)).gk g5 (by decide)⟩
          obtain ⟨o, eo, ho⟩ := b604_ok T5 ((U3.gk g4 (by decide)).gk g5 (by decide)) A5 V3 v3 hk F1 F8 (by omega) x2 (nI w) (nI r) x5 a65 hbb (fun _ => ⟨by rw [r5]; exact sa5, ok4⟩)
          refine ⟨o, pre ?_, ho.up (by omega) (by omega) (by omega)⟩
          have e4 : mL_said 40 99 (nI F) (1 : Int32) h3 = some (y, h4) := e4
          have e5 : stR 13 x6 (0 : Int32) y h4 = some h5' := e5
          rw [k2, b2s, if_neg (show ¬ (1 : Int32) = 0 by decide), aLen_ok a63.2.2 (by decide), obind, if_pos (show nI 1 = (1 : Int32) from rfl), gI_ok k4.1.1.k99, obind, k4.1.2.1.2.1, e4, b2s, e5, obind, eo, xts]
        · obtain ⟨o, eo, ho⟩ := b604_ok (Tb := lfT 2 0) k4 U3 A3 V3 v3 hk F1 F8 (by omega) x2 (nI w) (nI r) x5 a63 hbb (fun z => absurd z q)
          refine ⟨o, pre ?_, ho.up (by omega) (by omega) (by omega)⟩
          rw [k2, b2s, if_neg (show ¬ (1 : Int32) = 0 by decide), aLen_ok a63.2.2 (by decide), obind, show (1 : Int32) = nI 1 from rfl, c_eqd (by omega) (by omega), if_neg q, eo, xts])
    (s := ((0 : Int32), h)) ⟨h, n', u, fun _ => lfT 2 0, rfl, b, by omega, by omega, by rw [show kN (wpk needsW) (fun _ => lfT 2 0) 0 0 = [] from rfl, List.append_nil]; exact htp, fun j hj => absurd hj (Nat.not_lt_zero _), h5, h6⟩
  exact ⟨o, eo, ho⟩
end JA
