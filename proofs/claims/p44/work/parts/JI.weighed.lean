/-! WEIGHED, whole -/
/-- what lasts beside the rounds' own -/
def ZZ (σ : Sg) (I : Nat → Nat → Int32) (L : Nat → Nat → Int64) (T : Nat → Nat) (oa na ma ua su : Nat) : Prop := KX σ I T ∧ (∃ X m, TC I X m) ∧ LPw (hk σ I L) oa na ma ua su
section JI
variable {σ σ' : Sg} {I I' I1 I2 : Nat → Nat → Int32} {L L' L1 L2 : Nat → Nat → Int64} {T N M : Nat → Nat} {a n k f how so u oa na ma ua su : Nat} {P : Nat → Nat → Nat} {K : Nat → Bool} {Q : Nat → Nat → Nat} {b : Bool}
theorem ZZ.fl (z : ZZ σ I L T oa na ma ua su) (f : FrL I L I1 L1) : ZZ σ I1 L1 T oa na ma ua su := by
  obtain ⟨z1, ⟨X, m, z2⟩, z3⟩ := z
  refine ⟨z1.fr fun x hx => (f x (by omega)).1, ⟨X, m, z2.fr ⟨(f 101 (by omega)).1, (f 102 (by omega)).1⟩⟩, z3.hk rfl fun x hx => (f x (by omega)).1⟩
theorem l_weighed (r : RB σ I L T N a P K Q n) (z : ZZ σ I L T oa na ma ua su) (hk' : k < N 18) (hf : f < T 1) (hkn : kn N f = false) :
    ∃ σ' I' L', mL_weighed 99 (nI k) (nI f) (hk σ I L) = some (1, hk σ' I' L') ∧ RN σ' I' L' T N K Q n ∧ ZZ σ' I' L' T oa na ma ua su ∧ ((gN σ').2.2.1 ≤ (gN σ).2.2.1 + 20 ∧ (gN σ').2.2.2 ≤ (gN σ).2.2.2 + 8000) := by
  obtain ⟨w1, w18, w16, n16, hW, hE⟩ := r.b
  obtain ⟨I1, L1, c1, r1, f1⟩ := r.chance hk' (j := 0) (by omega)
  obtain ⟨I2, L2, c2, r2, f2⟩ := r1.chance hk' (j := 1) (by omega)
  rw [if_pos rfl] at c1
  rw [if_neg (by omega)] at c2
  have c1 : mX11_chance 100 (nI k) (0 : Int32) (hk σ I L) = some (nI (ch0 T N k), hk σ I1 L1) := c1
  have c2 : mX11_chance 100 (nI k) (1 : Int32) (hk σ I1 L1) = some (nI (ch1 T N k), hk σ I2 L2) := c2
  obtain ⟨I3, L3, c3, r3, f3⟩ := r2.que (c_worlds1 r2.2.1.1 |>.elim fun L' z => ⟨I2, L', z⟩)
  have c3 : mX11_worlds 100 (1 : Int32) (hk σ I2 L2) = some (nI (cntB (lft T N) 256), hk σ I3 L3) := c3
  obtain ⟨kx3, ⟨X, m, tc3⟩, lp3⟩ := ((z.fl f1).fl f2).fl f3
  have h3 := ch_rr hW hE.1 k
  have h3 := h3.eq (A' := pW T N k) (B' := aW T N) (all_pos hW hE.1) (by
    obtain ⟨_, _, _, d4, d5, _⟩ := ch_b (k := k) hW hE.1
    conv => lhs; rw [d5]
    conv => rhs; rw [d4]
    ac_rfl)
  -- the text
  obtain ⟨nl, _, hnl⟩ := wb_of32 (I3 99 5)
  have q3 : TQ (hk σ I3 L3) oa na ma ua su n (T 1) nl := ⟨lp3.1, ⟨r3.2.2.2, r3.2.2.1, hnl⟩, lp3.2.2⟩
  obtain ⟨h4, e4, b4⟩ := BW.new q3
  obtain ⟨h5, e5, b5⟩ := b4.app (u := []) st14 (by decide)
  obtain ⟨z6, h6, e6, st6, x6⟩ := w_fact b5.2.2.2 (f := f) (by omega)
  have b6 := b5.np x6
  obtain ⟨h7, e7, b7⟩ := b6.app st6 (by show 0 + 1 ≤ 600; omega)
  obtain ⟨zt, ht, et, stt, gt, qt⟩ := b7.tos (by show 1 ≤ 600; omega)
  obtain ⟨A3q, A3f, A3⟩ := lp3.2.1
  have At := A3.gk gt (by decide)
  obtain ⟨σ4, eh, g1, g2, g3, g4, g5, g6, gn, fr⟩ := hk_of gt.pl lp3.1.1 (fun a ha z => by rcases z with z | z <;> omega)
  obtain ⟨I4, hI4⟩ : ∃ I4, I4 = hpI ht := ⟨_, rfl⟩
  obtain ⟨L4, hL4⟩ : ∃ L4, L4 = hpL ht := ⟨_, rfl⟩
  rw [← hI4, ← hL4] at eh fr
  subst eh
  have k99 := qt.1.k99
  have k16 : (hpS (hk σ4 I4 L4) 99).1 = 16 := k99
  have r100 : RF σ4 99 0 = 100 := qt.1.2.1.2.1
  obtain ⟨I5, e8, tc5, f5⟩ := l_text k16 r100 (tc3.fr ⟨(fr 101 (by omega)).1, (fr 102 (by omega)).1⟩) stt (by show 1 ≤ 476; omega)
  have tc5 : TC I5 (fun i => [97 + f].getD i 0) 1 := tc5
  have cb5 : CB σ4 I5 L4 T N a P K Q := r3.2.1.ex2 g1 g3 (fun x hx => by
    have := fr x (by omega)
    rw [f5 x (by omega) (by omega)]; exact this) (fr 2 (by omega)).2
  have kx5 : KX σ4 I5 T := by
    obtain ⟨s1, s2, s3⟩ := kx3
    have hla := s1.1
    refine ⟨?_, fun w hw => by rw [f5 107 (by omega) (by omega), (fr 107 (by omega)).1]; exact s2 w hw, ?_⟩
    · unfold SG
      rw [g1, g2, g3, g4]; exact s1
    · rw [g1, f5 (gla σ + 2) (by rcases hla with e | e <;> rw [e] <;> omega) (by rcases hla with e | e <;> rw [e] <;> omega), (fr (gla σ + 2) (by rcases hla with e | e <;> rw [e] <;> omega)).1]
      exact s3
  obtain ⟨σ5, I6, L6, e9, gn5, cb6, kx6, tc6, l16, l17, fo⟩ := c_ask cb5 kx5 tc5 hf
  obtain ⟨g, t, bb, hg, eg, eqt, eqb, p1, p2, p3, ptb, pb0, pb8⟩ := low_f (f := f) hW hE.1
  rw [← eg] at l16 l17
  rw [← eqt] at l16
  rw [← eqb] at l17
  obtain ⟨as0, as1⟩ := c_asked (σ := σ5) (I := I6) l17 l16 pb0 (by omega)
  have i99 : I6 99 = I4 99 := by rw [(fo 99 (by omega)).1, f5 99 (by omega) (by omega)]
  have k99c : (hpS (hk σ5 I6 L6) 99).1 = 15 + 1 := by rw [hpS_hk, gn5]; exact k99
  have k99b : (hpS (hk σ4 I5 L4) 99).1 = 15 + 1 := k99
  have gX1 : ∀ {ρ : Type} (f : Nat → Option ρ), (gR 15 0 99 (hk σ4 I5 L4)).bind f = f 100 := fun f => by rw [gR_ok k99b, obind, hpR_hk, r100]
  have lf5 : LF σ5 := by
    obtain ⟨_, ⟨w2, w3, w3', _⟩, ⟨m', hm', w4⟩, _⟩ := id qt.1
    exact ⟨by rw [gn5]; exact w2, by rw [RF_eq gn5 (by omega) (by omega)]; exact w3, by rw [RF_eq gn5 (by omega) (by omega)]; exact w3', m', hm', by rw [gn5]; exact w4⟩
  have li5 : LWi (hk σ4 I4 L4) n (T 1) nl := qt.2.1
  have rb : RB σ5 I6 L6 T N a P K Q n := ⟨lf5, cb6, by rw [i99]; exact li5.2.1, by rw [i99]; exact li5.1⟩
  have lp6 : LPw (hk σ5 I6 L6) oa na ma ua su := LPw.hk (σ := σ4) (I := I4) (L := L4) ⟨qt.1, ⟨_, _, At⟩, qt.2.2⟩ gn5 (fun x hx => by rw [(fo x (by omega)).1, f5 x (by omega) (by omega)])
  obtain ⟨I7, L7, eA, fA', rn⟩ := l95_ok rb hk' hf hkn hg p1 p2 p3 ptb pb0 pb8 h3
  have zz : ZZ σ5 I6 L6 T oa na ma ua su := ⟨kx6, ⟨_, _, tc6⟩, lp6⟩
  refine ⟨σ5, I7, L7, ?_, rn, zz.fl fA', ?_⟩
  · unfold mL_weighed
    rw [if_pos (s99 r.1), gX r.1, c1, b2s, gX r1.1, c2, b2s, dNN_num (ch_rr hW hE.1 k).num, obind, gX r2.1, c3, b2s, e4, e5, b2s, e6, b2s, e7, b2s, et, b2s, e8, obind, gX1, e9, b2s, gX lf5, as0, obind, gX lf5, as1, obind, nI_64 (by omega), nI_64 (by omega)]
    exact eA
  · rw [gn5, gn]
    have b := gt.1
    have e1 : hpN (hk σ I3 L3) = (gN σ).2.2.1 := rfl
    have e2 : hpM (hk σ I3 L3) = (gN σ).2.2.2 := rfl
    rw [e1, e2] at b
    show hpN (hk σ4 I4 L4) ≤ _ ∧ hpM (hk σ4 I4 L4) ≤ _
    omega
end JI
