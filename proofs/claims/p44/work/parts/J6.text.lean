/-! TOLD, its end: the text is given, the suit read -/
def CXX (σ : Sg) (I : Nat → Nat → Int32) (L : Nat → Nat → Int64) : Prop := SG σ ∧ RS I ∧ (∃ T N a P K Q, CB σ I L T N a P K Q) ∧ ∃ X m, TC I X m
/-- what lasts of the law -/
def LPw (h : Hp) (oa na ma ua su : Nat) : Prop := LWs h oa na ma ua su ∧ (∃ q f, AL h na q f) ∧ CLO h
/-- a suit is told -/
def TD (h0 h : Hp) (oa na ma ua su n : Nat) (c s : Nat) : Prop := ∃ σ I L T n' P K Q, h = hk σ I L ∧ LF σ ∧ CB σ I L T (bgN T) 0 P K Q ∧ KX σ I T ∧ (∃ X m, TC I X m) ∧ LI I (T 1) n' ∧ n' ≤ n ∧ LPw (hk σ I L) oa na ma ua su ∧ (hpN h ≤ hpN h0 + c ∧ hpM h ≤ hpM h0 + s)
section J6
variable {σ σ' : Sg} {I I' I1 I2 : Nat → Nat → Int32} {L L' L1 L2 : Nat → Nat → Int64} {T N : Nat → Nat} {P : Nat → Nat → Nat} {K : Nat → Bool} {Q : Nat → Nat → Nat}
variable {h h' h0 h1 h2 h3 : Hp} {c c' s s' z a b n n' x y m F q oa na ma ua su nl tb : Nat} {t u : List Nat} {f g : Nat → Nat} {R : List (Nat × Nat)} {v : Vt}
theorem RF_eq (hg : gN σ' = gN σ) {a k : Nat} (h1 : a ≠ 100) (h2 : a ≠ 282) : RF σ' a k = RF σ a k := by
  unfold RF
  rw [if_neg h1, if_neg h1, if_neg h2, if_neg h2, hg]
theorem Sm_hk (hg : gN σ' = gN σ) {a : Nat} (h1 : a ≠ 100) (h2 : a ≠ 282) (f : I' a = I a ∧ L' a = L a) : Sm (hk σ I L) (hk σ' I' L') a :=
  ⟨by rw [hpS_hk, hpS_hk, hg], f.1, f.2, funext fun k => RF_eq hg h1 h2⟩
theorem LWs.kp (w : LWs h oa na ma ua su) (hN : hpN h' = hpN h) (sm : ∀ a, a = 1 ∨ a = 99 ∨ 433 ≤ a → hpS h' a = hpS h a ∧ hpR h' a = hpR h a) (iu : hpI h' ua = hpI h ua) : LWs h' oa na ma ua su := by
  obtain ⟨w1, ⟨w2, w3⟩, ⟨m, hm, w4⟩, ⟨o1, o2, o3⟩, ⟨m1, m2, m3, m4⟩, ⟨u1, u2, u3, u4, u5⟩, ne⟩ := w
  refine ⟨by omega, ⟨by rw [(sm 99 (by omega)).1]; exact w2, by rw [(sm 99 (by omega)).2]; exact w3⟩, ⟨m, hm, by rw [(sm 1 (by omega)).1]; exact w4⟩, ⟨o1, by omega, by rw [(sm oa (by omega)).1]; exact o3⟩, ⟨m1, by omega, by rw [(sm ma (by omega)).1]; exact m3, fun i hi => ?_⟩, ⟨u1, by omega, by rw [(sm ua (by omega)).1]; exact u3, by rw [iu]; exact u4, by rw [(sm ua (by omega)).2]; exact u5⟩, ne⟩
  obtain ⟨r1, r2, r3⟩ := m4 i hi
  rw [(sm ma (by omega)).2]
  exact ⟨r1, by omega, by rw [(sm _ (Or.inr (Or.inr r1))).1]; exact r3⟩
theorem AL.kp (w : AL h a n f) (hN : hpN h' = hpN h) (sm : ∀ a, 433 ≤ a → hpS h' a = hpS h a ∧ hpR h' a = hpR h a) (ia : hpI h' a = hpI h a) : AL h' a n f := by
  obtain ⟨w1, w2, w3, w4, w5, w6⟩ := w
  refine ⟨w1, by omega, by rw [(sm a w1).1]; exact w3, by rw [ia]; exact w4, w5, ?_⟩
  rw [(sm a w1).2]
  rcases w6 with q | ⟨q1, q2, q3, q4⟩
  · exact Or.inl q
  · exact Or.inr ⟨q1, by omega, by rw [(sm _ q1).1]; exact q3, fun i hi => by rw [(sm _ q1).2]; exact q4 i hi⟩
/-- the law lasts, whatever the class does -/
theorem LPw.hk (w : LPw (hk σ I L) oa na ma ua su) (hg : gN σ' = gN σ) (f : ∀ x, 433 ≤ x → I' x = I x) : LPw (CStruckCountsLaw_law_r5327_fb6219.hk σ' I' L') oa na ma ua su := by
  have hN : hpN (CStruckCountsLaw_law_r5327_fb6219.hk σ' I' L') = hpN (CStruckCountsLaw_law_r5327_fb6219.hk σ I L) := by show (gN σ').2.2.1 = (gN σ).2.2.1; rw [hg]
  have sm : ∀ a, a ≠ 100 → a ≠ 282 → hpS (CStruckCountsLaw_law_r5327_fb6219.hk σ' I' L') a = hpS (CStruckCountsLaw_law_r5327_fb6219.hk σ I L) a ∧ hpR (CStruckCountsLaw_law_r5327_fb6219.hk σ' I' L') a = hpR (CStruckCountsLaw_law_r5327_fb6219.hk σ I L) a := fun a h1 h2 => ⟨by rw [hpS_hk, hpS_hk, hg], funext fun k => RF_eq hg h1 h2⟩
  obtain ⟨w1, ⟨q, g, w2⟩, w3⟩ := w
  refine ⟨w1.kp hN (fun a ha => sm a (by omega) (by omega)) (f ua w1.2.2.2.2.2.1.1), ⟨q, g, w2.kp hN (fun a ha => sm a (by omega) (by omega)) (f na w2.1)⟩, by rw [hN]; exact w3.1, fun a ha hk' => ?_⟩
  rw [hN] at ha ⊢
  have e1 : hpS (CStruckCountsLaw_law_r5327_fb6219.hk σ' I' L') a = hpS (CStruckCountsLaw_law_r5327_fb6219.hk σ I L) a := by rw [hpS_hk, hpS_hk, hg]
  have hk2 : txk (CStruckCountsLaw_law_r5327_fb6219.hk σ I L) a := by
    unfold txk at hk' ⊢
    rw [e1] at hk'; exact hk'
  by_cases q1 : a = 100
  · subst q1
    have hk2 : (12 : Nat) = 17 ∨ (12 : Nat) = 18 := hk2
    omega
  · by_cases q2 : a = 282
    · subst q2
      have hk2 : (3 : Nat) = 17 ∨ (3 : Nat) = 18 := hk2
      omega
    · rw [(sm a q1 q2).2]
      exact w3.2 a ha hk2
theorem CB.ex2 (h : CB σ I L T N a P K Q) (hg : gla σ' = gla σ) (hs : gsa σ' = gsa σ) (f : ∀ x, ((112 ≤ x ∧ x < 414) ∨ x = 421) → I' x = I x ∧ L' x = L x) (f2 : L' 2 = L 2) : CB σ' I' L' T N a P K Q := by
  obtain ⟨⟨⟨h1, h2, h3⟩, h4, h5, h6, h7⟩, hE, ⟨p1, p2, p4, p6, p7⟩, hT⟩ := h
  have h2' : 268 ≤ gsa σ ∧ gsa σ < 414 := by unfold isSt at h2; omega
  refine ⟨⟨⟨by rw [hg]; exact h1, by rw [hs]; exact h2, fun k hk' => by rw [f2]; exact h3 k hk'⟩, h4, h5, by rw [hg]; exact h6.eq h1 h4 fun x a b => f x (by omega), by rw [hs]; exact h7.eq fun x a b => (f x (by omega)).1⟩, hE,
    ⟨by rw [hs]; exact p1, p2.fr (by rw [(f 285 (by omega)).1]) (by rw [(f 285 (by omega)).1]) (fun x a b => (f x (by omega)).1), p4.fr (by rw [(f 285 (by omega)).1]) (fun x a b => (f x (by omega)).1), p6, p7⟩,
    fun k hk' => by rw [(f 421 (by omega)).1]; exact hT k hk'⟩
/-- from a suit's lines to the answer -/
theorem k_text (h433 : 433 ≤ hpN (hk σ I L)) (cx : CXX σ I L) (T : TT (hk σ I L) h tb oa na ma ua su n F nl t R v c s) (hna : AL h na q f) (v1 : v.1 = F) : ∃ h', mL_told_b947 99 tb h = some (1, h') ∧ TD (hk σ I L) h' oa na ma ua su n (c + 2) (s + 1000) := by
  obtain ⟨cg, cr, ⟨T0, N0, a0, P0, K0, Q0, cb⟩, X, m, tc⟩ := cx
  obtain ⟨q0, sb, t472, tp, hz, G⟩ := T
  obtain ⟨z, h1, e1, st, x1, _⟩ := tos_ok q0.2.2 sb (by omega)
  have G1 := G.tr (x1.up (P' := PL) (fun _ _ z => False.elim z) (Nat.le_refl _) (Nat.le_refl _)) (fun _ _ z => z)
  have q1 := q0.np x1
  have al1 := hna.gk (x1.gk0 []) (by decide)
  obtain ⟨σ1, eh, g1, g2, g3, g4, g5, g6, gn, fr⟩ := hk_of G1 h433 (fun a ha z => by rcases z with z | z <;> omega)
  obtain ⟨I1, hI1⟩ : ∃ I1, I1 = hpI h1 := ⟨_, rfl⟩
  obtain ⟨L1, hL1⟩ : ∃ L1, L1 = hpL h1 := ⟨_, rfl⟩
  rw [← hI1, ← hL1] at eh fr
  subst eh
  have k99 := q1.1.k99
  have k16 : (hpS (hk σ1 I1 L1) 99).1 = 16 := k99
  have r100 : RF σ1 99 0 = 100 := q1.1.2.1.2.1
  obtain ⟨I2, e2, tc2, f2⟩ := l_text k16 r100 (tc.fr ⟨(fr 101 (by omega)).1, (fr 102 (by omega)).1⟩) st (by omega)
  have cg1 : SG σ1 := by
    unfold SG
    rw [g1, g2, g3, g4]; exact cg
  have cb2 : CB σ1 I2 L1 T0 N0 a0 P0 K0 Q0 := cb.ex2 g1 g3 (fun x hx => by
    have := fr x (by omega)
    rw [f2 x (by omega) (by omega)]; exact this) (fr 2 (by omega)).2
  have rs2 : RS I2 := fun w hw => by rw [f2 107 (by omega) (by omega), (fr 107 (by omega)).1]; exact cr w hw
  obtain ⟨_, gb, _, _, _, sb1, sb2, _⟩ := id cg1
  have tz : Tz t R := by
    have := tp [] [] Tz.nil
    rw [List.append_nil, List.append_nil] at this
    exact this
  obtain ⟨σ2, I3, L3, T2, e3, gn2, cb3, kx3, tc3, z7, z17, t1, t2, fo⟩ := c_suit cg1 rs2 cb2 tc2 tz (fun m => hz (sgs (sgl σ1 (glb σ1)) (gsb σ1)) (fun i => t.getD i 0) t.length m (glb σ1) (gsb σ1) gb rfl rfl (by unfold isSt at sb1; omega))
  obtain ⟨fa, fb⟩ := c_fault (σ := σ2) (L := L3) z7
  have c8 := c_count8 (σ := σ2) (L := L3) tc3
  have k99c : (hpS (hk σ2 I3 L3) 99).1 = 15 + 1 := by
    rw [hpS_hk, gn2]; exact k99
  have k99b : (hpS (hk σ1 I2 L1) 99).1 = 15 + 1 := k99
  have gX1 : ∀ {ρ : Type} (f : Nat → Option ρ), (gR 15 0 99 (hk σ1 I2 L1)).bind f = f 100 := fun f => by rw [gR_ok k99b, obind, hpR_hk, r100]
  have gX2 : ∀ {ρ : Type} (f : Nat → Option ρ), (gR 15 0 99 (hk σ2 I3 L3)).bind f = f 100 := fun f => by rw [gR_ok k99c, obind, hpR_hk, RF_eq gn2 (by omega) (by omega), r100]
  have i99 : I3 99 = I1 99 := by rw [(fo 99 (by omega)).1, f2 99 (by omega) (by omega)]
  have li1 : LWi (hk σ1 I1 L1) n F nl := q1.2.1
  have i5 : hpI (hk σ2 I3 L3) 99 5 = nI nl := by show I3 99 5 = _; rw [i99]; exact li1.2.2
  refine ⟨hk σ2 I3 L3, ?_, σ2, I3, L3, T2, n, P0, fun _ => false, Q0, rfl, ?_, cb3, kx3, ⟨_, _, tc3⟩, ⟨?_, ?_⟩, Nat.le_refl _, ?_, ?_⟩
  · unfold mL_told_b947
    rw [e1, b2s, e2, obind, gX1, e3, b2s, gI_ok k99c, obind, i5, if_pos rfl, gX2, show (0 : Int32) = 0 from rfl, fa, obind, if_pos rfl, gX2, fb, obind, if_pos rfl, gX2, c8, b2s, if_pos rfl]
  · obtain ⟨_, ⟨w2, w3, w3', _⟩, ⟨m', hm', w4⟩, _⟩ := id q1.1
    refine ⟨by rw [gn2]; exact w2, by rw [RF_eq gn2 (by omega) (by omega)]; exact w3, by rw [RF_eq gn2 (by omega) (by omega)]; exact w3', m', hm', by rw [gn2]; exact w4⟩
  · rw [i99, t1, v1]; exact li1.2.1
  · rw [i99]; exact li1.1
  · refine LPw.hk (σ := σ1) (I := I1) (L := L1) ⟨q1.1, ⟨_, _, al1⟩, q1.2.2⟩ gn2 (fun x hx => by rw [(fo x (by omega)).1, f2 x (by omega) (by omega)])
  · have hN : hpN (hk σ2 I3 L3) = hpN (hk σ1 I1 L1) := by show (gN σ2).2.2.1 = (gN σ1).2.2.1; rw [gn2]
    have hM : hpM (hk σ2 I3 L3) = hpM (hk σ1 I1 L1) := by show (gN σ2).2.2.2 = (gN σ1).2.2.2; rw [gn2]
    have b := G1.1
    rw [hN, hM]
    omega
end J6
