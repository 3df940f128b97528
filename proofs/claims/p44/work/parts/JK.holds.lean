/-! THE LAW, round by round -/
def SZ (σ : Sg) (c s : Nat) : Prop := (gN σ).2.2.1 ≤ c ∧ (gN σ).2.2.2 ≤ s
section JK
variable {σ σ' : Sg} {I I' I1 I2 : Nat → Nat → Int32} {L L' L1 L2 : Nat → Nat → Int64} {T N M : Nat → Nat} {a n k f how so u oa na ma ua su i c s kk cS0 : Nat} {P : Nat → Nat → Nat} {K : Nat → Bool} {Q : Nat → Nat → Nat} {b : Bool}
theorem RB.rne (h : RB σ I L T N a P K Q n) : RE σ I L T K Q n := ⟨N, a, P, n, Nat.le_refl _, h⟩
theorem RN.up {n' : Nat} (h : RN σ I L T N K Q n) (hn : n ≤ n') : RN σ I L T N K Q n' := by
  obtain ⟨a, P, m, hm, r⟩ := h
  exact ⟨a, P, m, by omega, r⟩
theorem RE.up {n' : Nat} (h : RE σ I L T K Q n) (hn : n ≤ n') : RE σ I L T K Q n' := by
  obtain ⟨N, a, P, m, hm, r⟩ := h
  exact ⟨N, a, P, m, by omega, r⟩
theorem b214_ok (h : RN σ I L T N K Q n) (hi : i < 2) (hK : K i = true) (hQ : Q i = N) (hn : n < 40000000) (x2 : Int32) :
    ∃ I' L', mL_holds_b214 99 x2 (nI i) (dig T N) (hk σ I L) = some (.inl (nI (i + 1), hk σ I' L')) ∧ FrL I L I' L' ∧ RE σ I' L' T K Q (n + 60) := by
  obtain ⟨a, P, n1, hn1, r⟩ := h
  obtain ⟨I1, L1, e1, f1, r1⟩ := l_paid r (by omega)
  obtain ⟨I2, L2, e2, r2, f2⟩ := r1.dig
  obtain ⟨I3, L3, e3, f3, N3, a3, P3, n3, hn3, r3⟩ := l_acts (m := 3) (by omega) (by omega) r2.rne
  have e3 : mL_acts 99 (3 : Int32) (hk σ I2 L2) = some (1, hk σ I3 L3) := e3
  obtain ⟨I4, e4, f4, r4⟩ := c_again r3.2.1 hi hK
  rw [hQ] at r4
  have w16 := r3.b.2.2.1
  have r4 : RB σ I4 L3 T N (min (a3 + 1) 16) (psh a3 P3 N3) K Q n3 := ⟨r3.1, r4, r3.2.2.c f4.l⟩
  obtain ⟨I5, L5, e5, r5, f5⟩ := r4.cnt (show 7 < 8 by omega)
  have e5 : mX11_count 100 (7 : Int32) (hk σ I4 L3) = some (nI (min (a3 + 1) 16), hk σ I5 L5) := e5
  obtain ⟨I6, L6, e6, r6, f6⟩ := r5.dig
  obtain ⟨v, I7, e7, f7, q⟩ := l_undo r6
  rcases q with ⟨q1, _⟩ | ⟨q1, q2, r7⟩
  · omega
  · have r7 := r7.rne
    refine ⟨I7, L6, ?_, (((((f1.tr f2).tr f3).tr f4.fL).tr f5).tr f6).tr f7, r7.up (by omega)⟩
    unfold mL_holds_b214
    rw [e1, b2s, if_neg (show ¬ (1 : Int32) = 0 by decide), e2, b2s, if_pos rfl, e3, b2s, if_neg (show ¬ (1 : Int32) = 0 by decide), gX r3.1, e4, b2s, if_neg (show ¬ (1 : Int32) = 0 by decide), gX r4.1, e5, b2s, e6, b2s, if_pos rfl, gX r6.1, e7, b2s, q2, show (1 : Int32) = nI 1 from rfl, nI_sub (by omega), if_pos rfl, nI_add]
theorem l153_ok (h : RN σ I L T N K Q n) (z : ZZ σ I L T oa na ma ua su) (hz : SZ σ c s) (hi : i < 2) (hK : K i = true) (hQ : Q i = N) (hn : n < 30000000) (hkk : kk < max 1 (N 18)) (x2 : Int32) :
    ∃ σ' I' L', mL_holds_l153 99 x2 (nI i) (dig T N) (nI kk) (0 : Int32) (hk σ I L) = some (.inl (nI (i + 1), hk σ' I' L')) ∧ RE σ' I' L' T K Q (n + 100) ∧ ZZ σ' I' L' T oa na ma ua su ∧ SZ σ' (c + 160) (s + 64000) := by
  have t8 : T 1 ≤ 8 := by obtain ⟨a, P, n1, hn1, r⟩ := h; exact r.b.1
  unfold mL_holds_l153
  obtain ⟨o, eo, σ', I', L', rfl, r⟩ := lp_invX (f := fun s : (Int32 × Hp) => mL_holds_l153f 99 x2 (nI i) (dig T N) (nI kk) s.1 s.2) (T 1)
    (fun f st => ∃ σ' I' L', st = (nI f, hk σ' I' L') ∧ RN σ' I' L' T N K Q (n + f) ∧ ZZ σ' I' L' T oa na ma ua su ∧ SZ σ' (c + 20 * f) (s + 8000 * f))
    (fun o => ∃ σ' I' L', o = (.inl (nI (i + 1), hk σ' I' L')) ∧ RE σ' I' L' T K Q (n + 100) ∧ ZZ σ' I' L' T oa na ma ua su ∧ SZ σ' (c + 160) (s + 64000))
    (fun f st hf hQ' => by
      obtain ⟨σ1, I1, L1, rfl, ⟨a, P, n1, hn1, r1⟩, z1, sz1⟩ := hQ'
      have g3 : gI 15 3 99 (hk σ1 I1 L1) = some (nI (T 1)) := by rw [gI_ok (s99 r1.1), hpI_hk, r1.2.2.1]
      obtain ⟨I2, L2, e2, r2, f2⟩ := r1.cnt (show 2 < 8 by omega)
      have e2 : mX11_count 100 (2 : Int32) (hk σ1 I1 L1) = some (nI (N 18), hk σ1 I2 L2) := e2
      have n18 := r1.b.2.1
      have z2 := z1.fl f2
      have szn : SZ σ1 (c + 20 * (f + 1)) (s + 8000 * (f + 1)) := ⟨Nat.le_trans sz1.1 (by omega), Nat.le_trans sz1.2 (by omega)⟩
      by_cases q0 : 0 < N 18
      · have ef := c_fact r2.2.1.1 hf (show 2 < 4 by omega)
        have ef : mX11_fact 100 (nI f) (2 : Int32) (hk σ1 I2 L2) = some (faV T N f 2) := ef
        have pre : mL_holds_l153f 99 x2 (nI i) (dig T N) (nI kk) (nI f) (hk σ1 I1 L1) = if faV T N f 2 = (2 : Int32) then (b2 (mL_draw 99 (2 : Int32) (hk σ1 I2 L2)) fun v47 h48 => if v47 = 0 then (b2 (mL_weighed 99 (nI kk) (nI f) h48) fun v49 h50 => if v49 = 0 then (xt (xt (xt (some ((0 : Int32), h50))))) else (mL_holds_b208 99 x2 (nI i) (dig T N) (nI kk) (nI f) h50)) else (mL_holds_b208 99 x2 (nI i) (dig T N) (nI kk) (nI f) h48)) else (mL_holds_b208 99 x2 (nI i) (dig T N) (nI kk) (nI f) (hk σ1 I2 L2)) := by
          unfold mL_holds_l153f
          rw [g3, obind, c_lt hf (by omega), gX r1.1, e2, b2s, if_pos (show (0 : Int32) < nI (N 18) from nI_lt (a := 0) q0 (by omega)), gX r2.1, ef, obind]
        have b208 : ∀ h, mL_holds_b208 99 x2 (nI i) (dig T N) (nI kk) (nI f) h = some (.inl (nI (f + 1), h)) := fun h => by
          unfold mL_holds_b208
          rw [nI_1]
        by_cases hkn : kn N f = true
        · refine Or.inl ⟨(nI (f + 1), hk σ1 I2 L2), ?_, σ1, I2, L2, rfl, ⟨a, P, n1, by omega, r2⟩, z2, szn⟩
          show mL_holds_l153f 99 x2 (nI i) (dig T N) (nI kk) (nI f) (hk σ1 I1 L1) = _
          have v2 : ¬ faV T N f 2 = (2 : Int32) := by
            have := (r2.b.2.2.2.2.2.1.1 f (by omega)).2.1
            unfold faV
            rw [if_neg (by omega), if_neg (by omega), if_pos rfl, if_pos hkn]
            intro q
            have := (nI_eq (a := N (8 + f)) (b := 2) (by omega) (by omega)).mp q
            omega
          rw [pre, if_neg v2, b208]
        · have hkn : kn N f = false := by
            cases q : kn N f
            · rfl
            · exact absurd q hkn
          have v2 : faV T N f 2 = (2 : Int32) := by
            unfold faV
            rw [if_neg (by omega), if_neg (by omega), if_pos rfl, if_neg (by rw [hkn]; decide)]
          obtain ⟨j, I3, hj, e3, r3, f3⟩ := r2.draw (by omega) (m := 2) (by omega) (by omega)
          have e3 : mL_draw 99 (2 : Int32) (hk σ1 I2 L2) = some (nI j, hk σ1 I3 L2) := e3
          have z3 := z2.fl f3
          by_cases j0 : j = 0
          · obtain ⟨σ4, I4, L4, e4, r4, z4, s4⟩ := l_weighed r3 z3 (k := kk) (f := f) (by omega) hf hkn
            refine Or.inl ⟨(nI (f + 1), hk σ4 I4 L4), ?_, σ4, I4, L4, rfl, r4.up (by omega), z4, ⟨Nat.le_trans s4.1 (Nat.le_trans (Nat.add_le_add_right sz1.1 20) (by rw [Nat.mul_succ, Nat.add_assoc]; exact Nat.le_refl _)), Nat.le_trans s4.2 (Nat.le_trans (Nat.add_le_add_right sz1.2 8000) (by rw [Nat.mul_succ, Nat.add_assoc]; exact Nat.le_refl _))⟩⟩
            show mL_holds_l153f 99 x2 (nI i) (dig T N) (nI kk) (nI f) (hk σ1 I1 L1) = _
            rw [pre, if_pos v2, e3, b2s, c_0 (by omega), if_pos j0, e4, b2s, if_neg (show ¬ (1 : Int32) = 0 by decide), b208]
          · refine Or.inl ⟨(nI (f + 1), hk σ1 I3 L2), ?_, σ1, I3, L2, rfl, r3.rn.up (by omega), z3, szn⟩
            show mL_holds_l153f 99 x2 (nI i) (dig T N) (nI kk) (nI f) (hk σ1 I1 L1) = _
            rw [pre, if_pos v2, e3, b2s, c_0 (by omega), if_neg j0, b208]
      · obtain ⟨I3, L3, e3, f3, r3⟩ := b214_ok r2.rn hi hK hQ (by omega) x2
        refine Or.inr ⟨.inl (nI (i + 1), hk σ1 I3 L3), ?_, σ1, I3, L3, rfl, r3.up (by omega), z2.fl f3, ⟨by have := sz1.1; omega, by have := sz1.2; omega⟩⟩
        show mL_holds_l153f 99 x2 (nI i) (dig T N) (nI kk) (nI f) (hk σ1 I1 L1) = _
        unfold mL_holds_l153f
        rw [g3, obind, c_lt hf (by omega), gX r1.1, e2, b2s, if_neg (show ¬ (0 : Int32) < nI (N 18) from nI_nlt (a := 0) (by omega) (by omega)), e3, xts])
    (fun st hQ' => by
      obtain ⟨σ1, I1, L1, rfl, hr, z1, sz1⟩ := hQ'
      obtain ⟨I3, L3, e3, f3, r3⟩ := b214_ok hr hi hK hQ (by omega) x2
      obtain ⟨a, P, n1, hn1, r1⟩ := hr
      have g3 : gI 15 3 99 (hk σ1 I1 L1) = some (nI (T 1)) := by rw [gI_ok (s99 r1.1), hpI_hk, r1.2.2.1]
      refine ⟨.inl (nI (i + 1), hk σ1 I3 L3), ?_, σ1, I3, L3, rfl, r3.up (by omega), z1.fl f3, ⟨by have := sz1.1; omega, by have := sz1.2; omega⟩⟩
      show mL_holds_l153f 99 x2 (nI i) (dig T N) (nI kk) (nI (T 1)) (hk σ1 I1 L1) = _
      unfold mL_holds_l153f
      rw [g3, obind, c_nlt (Nat.le_refl _) (by omega), e3, xts])
    (i := 0) (s := ((0 : Int32), hk σ I L)) (Nat.zero_le _) ⟨σ, I, L, rfl, h.up (by omega), z, hz⟩
  exact ⟨σ', I', L', eo, r⟩
theorem l41_ok (h : RE σ I L T K Q n) (z : ZZ σ I L T oa na ma ua su) (hz : SZ σ c s) (hn : n < 20000000) (x2 : Nat) :
    ∃ σ' I' L' K' Q', mL_holds_l41 99 (nI x2) (0 : Int32) (hk σ I L) = some (.inl (nI (x2 + 1), hk σ' I' L')) ∧ RE σ' I' L' T K' Q' (n + 1000) ∧ ZZ σ' I' L' T oa na ma ua su ∧ SZ σ' (c + 320) (s + 128000) := by
  unfold mL_holds_l41
  obtain ⟨o, eo, σ', I', L', K', Q', rfl, r⟩ := lp_inv (f := fun s : (Int32 × Hp) => mL_holds_l41f 99 (nI x2) s.1 s.2) 2
    (fun i st => ∃ σ' I' L' K' Q', st = (nI i, hk σ' I' L') ∧ RE σ' I' L' T K' Q' (n + 300 * i) ∧ ZZ σ' I' L' T oa na ma ua su ∧ SZ σ' (c + 160 * i) (s + 64000 * i))
    (fun o => ∃ σ' I' L' K' Q', o = (.inl (nI (x2 + 1), hk σ' I' L')) ∧ RE σ' I' L' T K' Q' (n + 1000) ∧ ZZ σ' I' L' T oa na ma ua su ∧ SZ σ' (c + 320) (s + 128000))
    (fun i st hi hQ => by
      obtain ⟨σ1, I0, L0, K1, Q1, rfl, ⟨N0, a0, P0, n0, hn0, r0⟩, z0, sz0⟩ := hQ
      obtain ⟨j, I1, hj, e1, r1, f1⟩ := r0.draw (by omega) (m := 6) (by omega) (by omega)
      have e1 : mL_draw 99 (6 : Int32) (hk σ1 I0 L0) = some (nI j, hk σ1 I1 L0) := e1
      obtain ⟨I2, L2, e2, f2, N, a, P, n2, hn2, r2⟩ := l_acts (m := 3 + j) (by omega) (by omega) r1.rne
      obtain ⟨I3, e3, f3, r3⟩ := c_keep r2.2.1 hi
      have r3 : RB σ1 I3 L2 T N a P (updA K1 i true) (updA Q1 i N) n2 := ⟨r2.1, r3, r2.2.2.c f3.l⟩
      have hK : updA K1 i true i = true := updA_same _ _ _
      have hQi : updA Q1 i N i = N := updA_same _ _ _
      obtain ⟨I4, L4, e4, r4, f4⟩ := r3.dig
      obtain ⟨I5, L5, e5, r5, f5⟩ := r4.cnt (show 2 < 8 by omega)
      have e5 : mX11_count 100 (2 : Int32) (hk σ1 I4 L4) = some (nI (N 18), hk σ1 I5 L5) := e5
      have n18 := r5.b.2.1
      have mx : mmax (1 : Int32) (nI (N 18)) = nI (max 1 (N 18)) := max_d (a := 1) (b := N 18) (by omega) (by omega)
      obtain ⟨kk, I6, hkk, e6, r6, f6⟩ := r5.draw (by omega) (m := max 1 (N 18)) (by omega) (by omega)
      obtain ⟨I7, L7, e7, r7, f7⟩ := r6.cnt (show 2 < 8 by omega)
      have e7 : mX11_count 100 (2 : Int32) (hk σ1 I6 L5) = some (nI (N 18), hk σ1 I7 L7) := e7
      have z7 := ((((((z0.fl f1).fl f2).fl f3.fL).fl f4).fl f5).fl f6).fl f7
      have m2 : n + 300 * (i + 1) = n + 300 * i + 300 := by rw [Nat.mul_succ, Nat.add_assoc]
      have m3 : c + 160 * (i + 1) = c + 160 * i + 160 := by rw [Nat.mul_succ, Nat.add_assoc]
      have m4 : s + 64000 * (i + 1) = s + 64000 * i + 64000 := by rw [Nat.mul_succ, Nat.add_assoc]
      have pre : ∀ {o}, (if 0 < nI (N 18) then (b2 (mL_judged 99 (nI kk) (hk σ1 I7 L7)) fun v51 h52 => if v51 = 0 then (xt (xt (some ((0 : Int32), h52)))) else ((gR 15 0 99 h52).bind fun v53 => b2 (mX11_count v53 (2 : Int32) h52) fun v54 h55 => b2 (mL_draw 99 v54 h55) fun v56 h57 => b2 (mL_pairs 99 (nI kk) v56 h57) fun v58 h59 => if v58 = 0 then (xt (xt (some ((0 : Int32), h59)))) else (b2 (mL_lacked 99 (nI kk) h59) fun v60 h61 => if v60 = 0 then (xt (xt (some ((0 : Int32), h61)))) else (mL_holds_b150 99 (nI x2) (nI i) (dig T N) (nI kk) h61)))) else (mL_holds_b150 99 (nI x2) (nI i) (dig T N) (nI kk) (hk σ1 I7 L7))) = o → mL_holds_l41f 99 (nI x2) (nI i) (hk σ1 I0 L0) = o := fun {o} e => by
        unfold mL_holds_l41f
        rw [if_pos (show nI i < (2 : Int32) from nI_lt (b := 2) hi (by omega)), e1, b2s, show (3 : Int32) = nI 3 from rfl, nI_add, e2, b2s, if_neg (show ¬ (1 : Int32) = 0 by decide), gX r2.1, e3, b2s, if_neg (show ¬ (1 : Int32) = 0 by decide), e4, b2s, gX r4.1, e5, b2s, mx, e6, b2s, gX r6.1, e7, b2s]
        exact e
      have fin : ∀ {I8 : Nat → Nat → Int32} {L8 : Nat → Nat → Int64} {n8 : Nat}, n8 ≤ n0 + 100 → RN σ1 I8 L8 T N (updA K1 i true) (updA Q1 i N) n8 → ZZ σ1 I8 L8 T oa na ma ua su → mL_holds_l41f 99 (nI x2) (nI i) (hk σ1 I0 L0) = mL_holds_b150 99 (nI x2) (nI i) (dig T N) (nI kk) (hk σ1 I8 L8) →
          ∃ t, mL_holds_l41f 99 (nI x2) (nI i) (hk σ1 I0 L0) = some (.inl t) ∧ ∃ σ' I' L' K' Q', t = (nI (i + 1), hk σ' I' L') ∧ RE σ' I' L' T K' Q' (n + 300 * (i + 1)) ∧ ZZ σ' I' L' T oa na ma ua su ∧ SZ σ' (c + 160 * (i + 1)) (s + 64000 * (i + 1)) := by
        intro I8 L8 n8 hn8 r8 z8 go
        obtain ⟨σ9, I9, L9, e9, r9, z9, s9⟩ := l153_ok r8 z8 sz0 hi hK hQi (by omega) hkk (nI x2)
        refine ⟨(nI (i + 1), hk σ9 I9 L9), ?_, σ9, I9, L9, _, _, rfl, r9.up (by rw [m2]; omega), z9, by rw [m3, m4]; exact s9⟩
        rw [go]
        unfold mL_holds_b150
        exact e9
      by_cases q0 : 0 < N 18
      · obtain ⟨I8, L8, e8, f8, a8, P8, n8, hn8, r8⟩ := l_judged r7 (by omega) (k := kk) (by omega)
        obtain ⟨I9, L9, e9, r9, f9⟩ := r8.cnt (show 2 < 8 by omega)
        have e9 : mX11_count 100 (2 : Int32) (hk σ1 I8 L8) = some (nI (N 18), hk σ1 I9 L9) := e9
        obtain ⟨kb, IA, hkb, eA, rA, fA'⟩ := r9.draw (by omega) (m := N 18) q0 (by omega)
        obtain ⟨IB, LB, eB, fB, aB, PB, nB, hnB, rB⟩ := l_pairs rA (a := kk) (b := kb) (by omega) hkb
        obtain ⟨IC, LC, eC, fC, rC⟩ := l_lacked rB (k := kk) (by omega)
        refine fin (n8 := nB) (by omega) rC (((((z7.fl f8).fl f9).fl fA').fl fB).fl fC) (pre ?_)
        rw [if_pos (show (0 : Int32) < nI (N 18) from nI_lt (a := 0) q0 (by omega)), e8, b2s, if_neg (show ¬ (1 : Int32) = 0 by decide), gX r8.1, e9, b2s, eA, b2s, eB, b2s, if_neg (show ¬ (1 : Int32) = 0 by decide), eC, b2s, if_neg (show ¬ (1 : Int32) = 0 by decide)]
      · refine fin (n8 := n2 + 1) (by omega) r7.rn z7 (pre ?_)
        rw [if_neg (show ¬ (0 : Int32) < nI (N 18) from nI_nlt (a := 0) (by omega) (by omega))])
    (fun st hQ => by
      obtain ⟨σ1, I0, L0, K1, Q1, rfl, r0, z0, sz0⟩ := hQ
      refine ⟨.inl (nI (x2 + 1), hk σ1 I0 L0), ?_, σ1, I0, L0, K1, Q1, rfl, r0.up (by omega), z0, sz0⟩
      show mL_holds_l41f 99 (nI x2) (nI 2) (hk σ1 I0 L0) = _
      unfold mL_holds_l41f
      rw [if_neg (show ¬ nI 2 < (2 : Int32) by decide), nI_1, xts])
    (s := ((0 : Int32), hk σ I L)) ⟨σ, I, L, K, Q, rfl, h, z, hz⟩
  exact ⟨σ', I', L', K', Q', eo, r⟩
end JK
