/-! TREES, drawn -/
section J2
variable {h h' h0 h1 h2 h3 : Hp} {P P' : Nat → Prop} {c c' s s' z a b n x y m F q oa na ma ua su nl lo d w e fu : Nat} {t u : List Nat} {l l' : List Nat} {f g : Nat → Nat}
theorem stR_ok {c a n i x : Nat} {h : Hp} (hs : hpS h a = (60 + c, n)) (hi : i < n) (h31 : n < 2 ^ 31) (hx : (hpS h x).1 = c + 1) : stR c a (nI i) x h = some (setR h a (updA (hpR h a) i x)) := by
  unfold stR
  rw [hs, inB_nI (by omega), ixN_nI (by omega), if_pos ⟨⟨rfl, by simpa using hi⟩, hx⟩, upR_set]
theorem mk13d (E : GK [16] h0 h c s) (hC0 : CLO h0) (w : LWs h oa na ma ua su) (li : LWi h n F nl) {M : Nat} (M1 : 1 ≤ M) (M8 : M ≤ 8) (hn : n + 1 < 1000000000) (k p : Nat) :
    ∃ j h1 h', j < M ∧ mL_draw 99 (nI M) (hpNew 14 3 h) = some (nI j, h1) ∧ mX13_init (hpN h) (nI k) (nI j) p h1 = some h' ∧ hpN h' = hpN h + 1 ∧ (∀ b, b < hpN h → b ≠ 99 → Sm h h' b) ∧ hpS h' (hpN h) = (14, 3) ∧ hpI h' (hpN h) 0 = nI k ∧ hpI h' (hpN h) 1 = nI j ∧ hpR h' (hpN h) 2 = p ∧ LWs h' oa na ma ua su ∧ LWi h' (n + 1) F nl ∧ CLO h' ∧ GK [16] h0 h' (c + 1) (s + 3) := by
  have w1 := w.1
  have hC := hC0.ex E
  have xx := E.le
  have E1 := E.nw 14 3
  have wN := w.nw 14 3
  have liN := li.nw w1 14 3
  obtain ⟨j, hj, e1⟩ := drw wN liN.1 (by omega) (m := M) (by omega) (by omega)
  obtain ⟨h1, hh1⟩ : ∃ h1, h1 = setI (hpNew 14 3 h) 99 (updA (hpI (hpNew 14 3 h) 99) 2 (nI (n + 1))) := ⟨_, rfl⟩
  have g2 : GK [16] (hpNew 14 3 h) h1 0 0 := by rw [hh1]; exact GK.setI (Or.inl rfl) (by rw [wN.2.1.1]; decide) _ (fun _ => by decide)
  have w2 : LWs h1 oa na ma ua su := by rw [hh1]; exact wN.dr _
  have li2 : LWi h1 (n + 1) F nl := by
    rw [hh1]
    unfold LWi
    rw [setI_I, if_pos rfl, updA_same, updA_ne _ _ (by omega), updA_ne _ _ (by omega)]
    exact ⟨rfl, liN.2⟩
  have E2 := GK.tr E1 g2
  have ne99 : hpN h ≠ 99 := by omega
  have sS1 : ∀ b, hpS h1 b = hpS (hpNew 14 3 h) b := fun b => by rw [hh1]; rfl
  have sR1 : ∀ b, hpR h1 b = hpR (hpNew 14 3 h) b := fun b => by rw [hh1]; rfl
  have sL1 : ∀ b, hpL h1 b = hpL (hpNew 14 3 h) b := fun b => by rw [hh1]; rfl
  have sI1 : ∀ b, b ≠ 99 → hpI h1 b = hpI (hpNew 14 3 h) b := fun b hb => by rw [hh1, setI_I, if_neg hb]
  have sN1 : hpN h1 = hpN h + 1 := by rw [hh1]; rfl
  have k14 : (hpS h1 (hpN h)).1 = 13 + 1 := by rw [sS1, nw_S, if_pos rfl]
  have E3 := E2.sI (a := hpN h) (r := updA (hpI h1 (hpN h)) 0 (nI k)) (fun q => by omega)
  have E4 := E3.sI (a := hpN h) (r := updA (hpI (setI h1 (hpN h) (updA (hpI h1 (hpN h)) 0 (nI k))) (hpN h)) 1 (nI j)) (fun q => by omega)
  have E5 := E4.sR (a := hpN h) (r := updA (hpR h1 (hpN h)) 2 p) (fun q => by omega) (fun q => by
    have q : (hpS h1 (hpN h)).1 = 17 ∨ (hpS h1 (hpN h)).1 = 18 := q
    omega)
  have u1 := w.2.2.2.2.2.1
  have m1 := w.2.2.2.2.1
  refine ⟨j, h1, _, hj, by rw [e1, hh1], ?_, ?_, fun b hb h99 => ?_, ?_, ?_, ?_, ?_, ((w2.sI (by omega) _).sI (by omega) _).sR (by omega) (by omega) (by omega) _, (li2.sI (a := hpN h) (by omega) _).sI (a := hpN h) (by omega) _, hC0.ex E5, E5⟩
  · unfold mX13_init
    rw [sI_ok k14, obind, sI_ok (by exact k14), obind, sR_ok (by exact k14), obind]
    rfl
  · exact sN1
  · have hb' : b ≠ hpN h := by omega
    refine ⟨?_, ?_, ?_, ?_⟩
    · show hpS h1 b = _
      rw [sS1, nw_S, if_neg hb']
    · show hpI (setI (setI h1 (hpN h) _) (hpN h) _) b = _
      rw [setI_I, if_neg hb', setI_I, if_neg hb', sI1 b h99, nw_I hb']
    · show hpL h1 b = _
      rw [sL1, nw_L hb']
    · rw [setR_R, if_neg hb']
      show hpR h1 b = _
      rw [sR1, nw_R hb']
  · show hpS h1 (hpN h) = _
    rw [sS1, nw_S, if_pos rfl]
  · show hpI (setI (setI h1 (hpN h) _) (hpN h) _) (hpN h) 0 = _
    rw [setI_I, if_pos rfl, updA_ne _ _ (by omega), setI_I, if_pos rfl, updA_same]
  · show hpI (setI (setI h1 (hpN h) _) (hpN h) _) (hpN h) 1 = _
    rw [setI_I, if_pos rfl, updA_same]
  · rw [setR_R, if_pos rfl, updA_same]
theorem nI_prd (k : Nat) : nI (k + 1) - (1 : Int32) = nI k := by rw [show (1 : Int32) = nI 1 from rfl, nI_sub (by omega), Nat.add_sub_cancel]
theorem l63_ok {k : Nat} (ih : sdP oa na ma ua su d e fu) (E : GK [16] h0 h c s) (hC0 : CLO h0) (w : LWs h oa na ma ua su) (li : LWi h n F nl) (F1 : 1 ≤ F) (F8 : F ≤ 8) (hm : 1 ≤ m ∧ m ≤ 3) (hk : 1 ≤ k ∧ k ≤ 4) (hk1 : k = 1 → m = 1) (hk2 : k ≠ 1 → 2 ≤ m) (hn : n + 3 * nS d + 1 < 1000000000) :
    ∃ a h' T n', mL_said_b55 (mg_L_said fu) 99 (nI F) (nI (e + 1)) (nI k) (nI m) h = some (a, h') ∧ SAl (hpN h0) h' (d + 1) a T ∧ okT F (d + 1) T ∧ LWs h' oa na ma ua su ∧ LWi h' n' F nl ∧ n' ≤ n + 3 * nS d + 1 ∧ CLO h' ∧ GK [16] h0 h' (c + cS (d + 1)) (s + sS (d + 1)) := by
  have w1 := w.1
  have hC := hC0.ex E
  have xx := E.le
  have mul3 : ∀ v, m * v ≤ 3 * v := fun v => Nat.mul_le_mul_right _ hm.2
  unfold mL_said_b55 mL_said_l63
  rw [newV_ok 73 hC.1 (by omega), b2s]
  obtain ⟨o, eo, a, h', T, n', rfl, r⟩ := lp_inv (f := fun s : (Int32 × Hp) => mL_said_l63f (mg_L_said fu) 99 (nI F) (nI (e + 1)) (nI k) (hpN h) s.1 s.2) m
    (fun i st => ∃ h1 n1, ∃ p : Nat → Tr d, st = (nI i, h1) ∧ LWs h1 oa na ma ua su ∧ LWi h1 n1 F nl ∧ n1 ≤ n + i * nS d ∧ CLO h1 ∧ GK [16] h0 h1 (c + 1 + i * cS d) (s + m + i * sS d) ∧ hpN h + 1 ≤ hpN h1 ∧ hpS h1 (hpN h) = (73, m) ∧ ∀ j, j < i → SAl (hpN h + 1) h1 d (hpR h1 (hpN h) j) (p j) ∧ okT F d (p j))
    (fun o => ∃ a h' T n', o = (a, h') ∧ SAl (hpN h0) h' (d + 1) a T ∧ okT F (d + 1) T ∧ LWs h' oa na ma ua su ∧ LWi h' n' F nl ∧ n' ≤ n + 3 * nS d + 1 ∧ CLO h' ∧ GK [16] h0 h' (c + cS (d + 1)) (s + sS (d + 1)))
    (fun i st hi hQ => by
      obtain ⟨h1, n1, p, rfl, w2, li2, hn1, C1, E1, nle, hS, hp⟩ := hQ
      have im := Nat.mul_le_mul_right (nS d) (show i + 1 ≤ 3 by omega)
      have is1 : (i + 1) * nS d = i * nS d + nS d := Nat.succ_mul _ _
      obtain ⟨a, h2, T, n2, e2, sa, okt, w3, li3, hn2, C2, g2⟩ := ih w2 li2 C1 F1 F8 (by omega)
      have smx := g2.sm' (a := hpN h) (by omega) (by omega) (by rw [hS]; show 73 ∉ [16]; decide)
      have hS2 : hpS h2 (hpN h) = (73, m) := by rw [smx.1]; exact hS
      have ka : (hpS h2 a).1 = 13 + 1 := by
        have := (sa.sa (by omega)).hd
        exact this.2.2.1
      have E2 := GK.tr E1 g2
      have E3 := E2.sR (a := hpN h) (r := updA (hpR h2 (hpN h)) i a) (fun q => by omega) (fun q => by
        unfold txk at q
        rw [hS2] at q
        have q : (73 : Nat) = 17 ∨ (73 : Nat) = 18 := q
        omega)
      have le2 := g2.le
      have u1 := w3.2.2.2.2.2.1
      have m1 := w3.2.2.2.2.1
      have kp : ∀ {b : Nat} {U : Tr d}, SAl (hpN h + 1) h2 d b U → SAl (hpN h + 1) (setR h2 (hpN h) (updA (hpR h2 (hpN h)) i a)) d b U := fun {b U} hb => SAl.keep (h := h2) (h' := setR h2 (hpN h) (updA (hpR h2 (hpN h)) i a)) (Nat.le_refl _) (fun x hx _ _ => ⟨rfl, rfl, rfl, by rw [setR_R, if_neg (by omega)]⟩) hb
      refine ⟨(nI (i + 1), setR h2 (hpN h) (updA (hpR h2 (hpN h)) i a)), ?_, setR h2 (hpN h) (updA (hpR h2 (hpN h)) i a), n2, fun j => if j = i then T else p j, rfl, w3.sR (by omega) (fun q => by have := m1.2.2.1; rw [← q, hS2] at this; cases this) (fun q => by have := u1.2.2.1; rw [← q, hS2] at this; cases this) _, li3, by omega, hC0.ex E3, E3.up (fun _ _ q => q) (by rw [Nat.succ_mul]; omega) (by rw [Nat.succ_mul]; omega), by show hpN h + 1 ≤ hpN h2; omega, hS2, fun j hj => ?_⟩
      · show mL_said_l63f (mg_L_said fu) 99 (nI F) (nI (e + 1)) (nI k) (hpN h) (nI i) h1 = _
        unfold mL_said_l63f
        rw [aLen_ok hS (by decide), obind, c_lt hi (by omega), nI_prd, e2, b2s, stR_ok hS2 hi (by omega) ka, obind, nI_1]
      · rw [setR_R, if_pos rfl]
        by_cases q : j = i
        · rw [q, updA_same]
          show SAl _ _ d a (if i = i then T else p i) ∧ okT F d (if i = i then T else p i)
          rw [if_pos rfl]
          exact ⟨kp (sa.dn (by omega)), okt⟩
        · rw [updA_ne _ _ q, show hpR h2 (hpN h) j = hpR h1 (hpN h) j by rw [smx.2.2.2]]
          show SAl _ _ d _ (if j = i then T else p j) ∧ okT F d (if j = i then T else p j)
          rw [if_neg q]
          obtain ⟨p1, p2⟩ := hp j (by omega)
          exact ⟨kp (p1.keep le2 fun x hx hx2 hxk => g2.sm' hx2 (by omega) (by rcases hxk with z | z <;> rw [z] <;> decide)), p2⟩)
    (fun st hQ => by
      obtain ⟨h1, n1, p, rfl, w2, li2, hn1, C1, E1, nle, hS, hp⟩ := hQ
      have mn := mul3 (nS d)
      have mc := mul3 (cS d)
      have ms := mul3 (sS d)
      have hle := E1.le
      have hCd : ∀ j h', (∀ b, b < hpN h1 → b ≠ 99 → Sm h1 h' b) → hpN h' = hpN h1 + 1 → hpS h' (hpN h1) = (14, 3) → hpI h' (hpN h1) 0 = nI k → hpI h' (hpN h1) 1 = nI j → hpR h' (hpN h1) 2 = hpN h → SAl (hpN h0) h' (d + 1) (hpN h1) (mkT k j m p) := fun j h' sm hN z1 z2 z3 z4 => by
        obtain ⟨s1, s2, s3, s4⟩ := sm (hpN h) (by omega) (by omega)
        refine ⟨by omega, by omega, z1, z2, z3, fun _ => ?_⟩
        rw [z4, s1, s4]
        exact ⟨by omega, by omega, hS, fun i hi => ((hp i hi).1.keep (by omega) fun x hx hx2 _ => sm x hx2 (by omega)).dn (by omega)⟩
      have okd : ∀ j, (k = 4 → j ≤ m) → okT F (d + 1) (mkT k j m p) := fun j hj => ⟨hk.2, fun q => by have q : k = 0 := q; omega, fun _ => ⟨hm.1, hm.2, hk1, hk2, fun i hi => (hp i hi).2⟩, hj⟩
      by_cases q4 : k = 4
      · obtain ⟨j, h2, h3, hj, e2, e3, hN, sm, z1, z2, z3, z4, w3, li3, C3, E3⟩ := mk13d E1 hC0 w2 li2 (M := m + 1) (by omega) (by omega) (by omega) k (hpN h)
        refine ⟨(hpN h1, h3), ?_, hpN h1, h3, mkT k j m p, n1 + 1, rfl, hCd j h3 sm hN z1 z2 z3 z4, okd j (fun _ => by omega), w3, li3, by omega, C3, E3.up (fun _ _ q => q) (by show _ ≤ c + (2 + 3 * cS d); omega) (by show _ ≤ s + (6 + 3 * sS d); omega)⟩
        show mL_said_l63f (mg_L_said fu) 99 (nI F) (nI (e + 1)) (nI k) (hpN h) (nI m) h1 = _
        have hSn : hpS (hpNew 14 3 h1) (hpN h) = (73, m) := by rw [nw_S, if_neg (by omega)]; exact hS
        unfold mL_said_l63f mL_said_b113
        rw [aLen_ok hS (by decide), obind, c_nlt (Nat.le_refl _) (by omega), newO_ok 13 3 C1.1, b2s, if_pos (show nI k = (4 : Int32) by rw [q4]; rfl), aLen_ok hSn (by decide), obind, nI_1, e2, b2s, if_neg (by omega), e3, obind, xts]
      · obtain ⟨h3, e3, hN, sm, z1, z2, z3, z4, w3, li3, C3, E3⟩ := mk13 E1 hC0 w2 li2 k 0 (hpN h)
        refine ⟨(hpN h1, h3), ?_, hpN h1, h3, mkT k 0 m p, n1, rfl, hCd 0 h3 (fun b hb _ => sm b (by omega)) hN z1 z2 z3 z4, okd 0 (fun _ => by omega), w3, li3, by omega, C3, E3.up (fun _ _ q => q) (by show _ ≤ c + (2 + 3 * cS d); omega) (by show _ ≤ s + (6 + 3 * sS d); omega)⟩
        show mL_said_l63f (mg_L_said fu) 99 (nI F) (nI (e + 1)) (nI k) (hpN h) (nI m) h1 = _
        have e3 : mX13_init (hpN h1) (nI k) (0 : Int32) (hpN h) (hpNew 14 3 h1) = some h3 := e3
        unfold mL_said_l63f mL_said_b113
        rw [aLen_ok hS (by decide), obind, c_nlt (Nat.le_refl _) (by omega), newO_ok 13 3 C1.1, b2s, show (4 : Int32) = nI 4 from rfl, c_eqd (by omega) (by omega), if_neg q4, if_neg (by omega), e3, obind, xts])
    (s := ((0 : Int32), hpNew 73 m h)) ⟨hpNew 73 m h, n, fun _ => lfT d 0, rfl, w.nw 73 m, li.nw w1 73 m, by omega, hC0.ex (E.nw 73 m), (E.nw 73 m).up (fun _ _ q => q) (by omega) (by omega), Nat.le_refl _, by rw [nw_S, if_pos rfl], fun j hj => absurd hj (Nat.not_lt_zero _)⟩
  exact ⟨a, h', T, n', eo, r⟩
theorem sd_all : ∀ (e d fu : Nat), e ≤ d → e + 1 ≤ fu → e ≤ 5 → sdP oa na ma ua su d e fu
  | 0, d, fu, _, hf, _ => by
    intro h n F nl w li hC F1 F8 hn
    obtain ⟨fu, rfl⟩ : ∃ k, fu = k + 1 := ⟨fu - 1, by omega⟩
    have k16 : (hpS h 99).1 = 16 := w.k99
    have c1 := cS_1 d
    obtain ⟨a, h', T, e1, sa, okt, w2, li2, C2, g⟩ := leaf_sd (G := mg_L_said fu) ((Gw.rf 0 0 : GK [16] h h 0 0)) hC w li F1 F8 (by omega) d
    refine ⟨a, h', T, n + 1, ?_, sa, okt, w2, li2, by omega, C2, g.up (fun _ _ q => q) (by omega) (by omega)⟩
    show mL_said_F (mg_L_said fu) 99 (nI F) (nI 0) h = _
    unfold mL_said_F mL_said_b14
    rw [if_pos k16, if_pos (show nI 0 = (0 : Int32) from rfl), if_pos rfl]
    exact e1
  | e + 1, d, fu, hd, hf, he5 => by
    intro h n F nl w li hC F1 F8 hn
    obtain ⟨fu, rfl⟩ : ∃ k, fu = k + 1 := ⟨fu - 1, by omega⟩
    obtain ⟨d, rfl⟩ : ∃ k, d = k + 1 := ⟨d - 1, by omega⟩
    have ih := sd_all e d fu (by omega) (by omega) (by omega)
    have k16 : (hpS h 99).1 = 16 := w.k99
    have c1 := cS_1 (d + 1)
    have hn : n + (3 + 3 * nS d) < 1000000000 := hn
    obtain ⟨j, h1, hj, e1, w2, li2, C2, g2⟩ := drawk w li hC (by omega) (m := 6) (by omega) (by omega)
    have e1 : mL_draw 99 (6 : Int32) h = some (nI j, h1) := e1
    have go : ∀ {o : Option (Nat × Hp)}, mL_said_b14 (mg_L_said fu) 99 (nI F) (nI (e + 1)) (nI j) h1 = o → mg_L_said (fu + 1) 99 (nI F) (nI (e + 1)) h = o := fun {o} ho => by
      show mL_said_F (mg_L_said fu) 99 (nI F) (nI (e + 1)) h = _
      unfold mL_said_F
      rw [if_pos k16, if_neg (fun q => by have := (nI_z (show e + 1 < 2 ^ 32 by omega)).mp q; omega), e1, b2s]
      exact ho
    by_cases q05 : j = 0 ∨ j = 5
    · obtain ⟨a, h', T, e2, sa, okt, w3, li3, C3, g⟩ := leaf_sd (G := mg_L_said fu) g2 hC w2 li2 F1 F8 (by omega) (d + 1)
      refine ⟨a, h', T, n + 1 + 1, go ?_, sa, okt, w3, li3, by show _ ≤ n + (3 + 3 * nS d); omega, C3, g.up (fun _ _ q => q) (by omega) (by omega)⟩
      unfold mL_said_b14
      rcases q05 with q | q
      · rw [q, if_pos (show nI 0 = (0 : Int32) from rfl)]; exact e2
      · rw [q, if_neg (by decide), if_pos (show nI 5 = (5 : Int32) from rfl)]; exact e2
    · by_cases q1 : j = 1
      · obtain ⟨a, h', T, n', e2, sa, okt, w3, li3, hn', C3, g⟩ := l63_ok (k := 1) (m := 1) ih g2 hC w2 li2 F1 F8 (by omega) (by omega) (fun _ => rfl) (fun q => absurd rfl q) (by omega)
        refine ⟨a, h', T, n', go ?_, sa, okt, w3, li3, by show _ ≤ n + (3 + 3 * nS d); omega, C3, g.up (fun _ _ q => q) (by omega) (by omega)⟩
        unfold mL_said_b14
        rw [q1, if_neg (by decide), if_neg (by decide), if_pos (show nI 1 = (1 : Int32) from rfl)]
        exact e2
      · obtain ⟨j2, h2, hj2, e3, w3, li3, C3, g3⟩ := drawk w2 li2 C2 (by omega) (m := 2) (by omega) (by omega)
        have e3 : mL_draw 99 (2 : Int32) h1 = some (nI j2, h2) := e3
        obtain ⟨a, h', T, n', e2, sa, okt, w4, li4, hn', C4, g⟩ := l63_ok (k := j) (m := 2 + j2) ih (GK.tr g2 g3) hC w3 li3 F1 F8 (by omega) (by omega) (fun q => absurd q q1) (fun _ => by omega) (by omega)
        refine ⟨a, h', T, n', go ?_, sa, okt, w4, li4, by show _ ≤ n + (3 + 3 * nS d); omega, C4, g.up (fun _ _ q => q) (by omega) (by omega)⟩
        unfold mL_said_b14
        rw [c_0 (by omega), if_neg (by omega), show (5 : Int32) = nI 5 from rfl, c_eqd (by omega) (by omega), if_neg (by omega), show (1 : Int32) = nI 1 from rfl, c_eqd (by omega) (by omega), if_neg q1, e3, b2s, show (2 : Int32) = nI 2 from rfl, nI_add]
        exact e2
/-- a tree -/
theorem l_said (he : e ≤ 2) (w : LWs h oa na ma ua su) (li : LWi h n F nl) (hC : CLO h) (F1 : 1 ≤ F) (F8 : F ≤ 8) (hn : n + 21 < 1000000000) :
    ∃ a h' n', ∃ T : Tr 2, mL_said 40 99 (nI F) (nI e) h = some (a, h') ∧ SAl (hpN h) h' 2 a T ∧ okT F 2 T ∧ LWs h' oa na ma ua su ∧ LWi h' n' F nl ∧ n' ≤ n + 21 ∧ CLO h' ∧ GK [16] h h' 17 51 := by
  obtain ⟨a, h', T, n', e1, sa, okt, w2, li2, hn', C2, g⟩ := sd_all (oa := oa) (na := na) (ma := ma) (ua := ua) (su := su) e 2 40 (by omega) (by omega) (by omega) w li hC F1 F8 hn
  exact ⟨a, h', n', T, e1, sa, okt, w2, li2, hn', C2, g⟩
end J2
