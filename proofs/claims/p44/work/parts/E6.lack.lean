section E6
variable {σ σ' : Sg} {I I' I1 I2 : Nat → Nat → Int32} {L L' L1 L2 : Nat → Nat → Int64} {T N M : Nat → Nat} {a F n k : Nat} {P : Nat → Nat → Nat} {K : Nat → Bool} {Q : Nat → Nat → Nat}
theorem RB.of (h : RB σ I L T N a P K Q n) (hk' : k < N 18) {j : Nat} (hj : j < 11) : ∃ I1 L1, mX11_of 100 (nI k) (nI j) (hk σ I L) = some (nI (ofV T N k j), hk σ I1 L1) ∧ RB σ I1 L1 T N a P K Q n ∧ FrL I L I1 L1 :=
  h.que (c_of h.2.1.1 hk' hj)
/-- why it fails, now -/
def why (T N : Nat → Nat) (k : Nat) : Nat := fls T N k (it N k 4) (it N k 5)
theorem RB.why (h : RB σ I L T N a P K Q n) (hk' : k < N 18) : ∃ I1 L1, mX11_of 100 (nI k) (9 : Int32) (hk σ I L) = some (nI (why T N k), hk σ I1 L1) ∧ RB σ I1 L1 T N a P K Q n ∧ FrL I L I1 L1 := h.of hk' (show 9 < 11 by omega)
theorem fls_le (T N : Nat → Nat) (k S So : Nat) : fls T N k S So ≤ 6 := by
  unfold fls
  split
  · omega
  · split
    · omega
    · split
      · omega
      · split
        · omega
        · split
          · omega
          · split <;> omega
theorem lok_fls {c : Nat} (h : lok T N k c = true) : sb (kf c) (fr2 T N k) ∧ sb (ks c) (kf c) ∧ pc (kf c) = c / 65536 ∧ ((ks c ^^^ knS N) &&& kf c) &&& knF N = 0 ∧ fls T N k (it N k 4 ||| kf c) (it N k 5 ||| ks c) = 0 := by
  unfold lok at h
  rw [Bool.and_eq_true, Bool.and_eq_true] at h
  obtain ⟨hp, hf, hs⟩ := kv_iff.mp h.1
  exact ⟨hf, hs, hp, of_decide_eq_true h.2.1, of_decide_eq_true h.2.2⟩
/-- nothing is lacking just where it stands -/
theorem lok_0 : lok T N k 0 = true ↔ why T N k = 0 := by
  have e1 : kf 0 = 0 := by decide
  have e2 : ks 0 = 0 := by decide
  unfold lok why
  rw [e1, e2, Nat.or_zero, Nat.or_zero, Nat.and_zero, Nat.zero_and, kv_iff.mpr ⟨by rw [e1]; decide, by rw [e1]; exact sb_0 _, by rw [e1, e2]; exact sb_0 _⟩]
  simp
/-- the lacking facts said one after another, then all taken back -/
theorem l_lack191 (h : RB σ I L T N a P K Q n) (hk' : k < N 18) {c : Nat} (hc : c < 589824) (hl : lok T N k c = true) (hmin : ∀ d, d < c → lok T N k d = false) :
    ∃ I1 L1, mL_lacked_l191 99 (nI k) (nI (kf c)) (nI (ks c)) (nI (why T N k)) 0 0 (hk σ I L) = some (1, hk σ I1 L1) ∧ FrL I L I1 L1 ∧ RN σ I1 L1 T N K Q n := by
  obtain ⟨w1, w18, w16, n16, hW, hE⟩ := h.b
  obtain ⟨hf, hs, hp, hkn, hfl⟩ := lok_fls hl
  have kl := kf_lt c
  have sl := ks_lt c
  have wl := fls_le T N k (it N k 4) (it N k 5)
  have n6 : it N k 6 ≠ 1 := (fls_0.mp hfl).1
  unfold mL_lacked_l191
  obtain ⟨o, e, I5, L5, rfl, f5, r5⟩ := lp_inv (f := fun s : (Int32 × Int32 × Hp) => mL_lacked_l191f 99 (nI k) (nI (kf c)) (nI (ks c)) (nI (why T N k)) s.1 s.2.1 s.2.2) (T 1)
    (fun j st => ∃ I5 L5 M a' P', st = (nI (cntB (fun g => (kf c).testBit g) j), nI j, hk σ I5 L5) ∧ FrL I L I5 L5 ∧ RB σ I5 L5 T M a' P' K Q n ∧ SD N M k (kf c) (ks c) j ∧ HB a' P' M N (cntB (fun g => (kf c).testBit g) j))
    (fun o => ∃ I5 L5, o = (1, hk σ I5 L5) ∧ FrL I L I5 L5 ∧ RN σ I5 L5 T N K Q n)
    (fun j st hj hQ => by
      obtain ⟨I5, L5, M, a', P', rfl, f5, r5, sd, hb⟩ := hQ
      have hcj := cntB_le (fun g => (kf c).testBit g) j
      have g3 : gI 15 3 99 (hk σ I5 L5) = some (nI (T 1)) := by rw [gI_ok (s99 h.1), hpI_hk, r5.2.2.1]
      have hkM : k < M 18 := by rw [sd.1 18 (by omega) (by omega)]; exact hk'
      cases hbit : (kf c).testBit j
      · refine ⟨_, ?_, I5, L5, M, a', P', rfl, f5, r5, sd_skip sd hbit hs, ?_⟩
        · show mL_lacked_l191f 99 (nI k) (nI (kf c)) (nI (ks c)) (nI (why T N k)) (nI (cntB (fun g => (kf c).testBit g) j)) (nI j) (hk σ I5 L5) = _
          unfold mL_lacked_l191f mL_lacked_b250
          rw [g3, obind, c_lt hj (by omega), bit_n (by omega) (by omega), hbit, if_pos (show bI false = 0 from rfl), cntS, hbit, if_neg (by decide), nI_1]
          rfl
        · rw [cntS, hbit, if_neg (by decide), Nat.add_zero]; exact hb
      · have a16 : a' ≤ 16 := r5.b.2.2.1
        obtain ⟨I6, L6, e6, r6, f6⟩ := r5.why hkM
        have wne : why T M k ≠ 0 := by
          unfold Jvm.Pilot.@@N@@.why
          rw [sd_fls sd, sd.2.1, sd.2.2]
          exact lok_part hl hmin hc (by omega) hbit
        have wle := fls_le T M k (it M k 4) (it M k 5)
        have wle : why T M k ≤ 6 := wle
        have hS : (it M k 4).testBit j = false := by
          rw [sd.2.1, Nat.testBit_or, bsn, decide_eq_false (by omega), Bool.false_and, Bool.or_false]
          have := hf j hbit
          rw [fr2_bit, Bool.and_eq_true] at this
          simpa using this.2
        obtain ⟨b, hb2⟩ : ∃ b, b = if (ks c).testBit j = true then 1 else 0 := ⟨_, rfl⟩
        have b2 : b < 2 := by rw [hb2]; split <;> omega
        have bb : bI ((ks c).testBit j) = nI b := by rw [hb2]; cases (ks c).testBit j <;> rfl
        have kn2 : kn M j = true → M (8 + j) = b := fun q => by
          have e1 : kn M j = kn N j := by unfold kn; rw [sd.1 j (by omega) (by omega)]
          rw [e1] at q
          rw [sd.1 (8 + j) (by omega) (by omega)]
          have := congrArg (fun z => z.testBit j) hkn
          simp only [Nat.testBit_and, Nat.testBit_xor, Nat.zero_testBit] at this
          rw [hbit, knb N (show j < 8 by omega), q] at this
          have ksb : (knS N).testBit j = decide (N (8 + j) = 1) := by unfold knS; rw [bs_bit, decide_eq_true (show j < 8 by omega), Bool.true_and, q, Bool.true_and]
          rw [ksb] at this
          have hN := (hE.1.1 j (by omega)).2.1
          rw [hb2]
          revert this
          cases (ks c).testBit j
          · intro this
            rw [if_neg (by decide)]
            by_cases z : N (8 + j) = 1
            · rw [decide_eq_true z] at this; simp at this
            · omega
          · intro this
            rw [if_pos rfl]
            by_cases z : N (8 + j) = 1
            · exact z
            · rw [decide_eq_false z] at this; simp at this
        obtain ⟨v, I7, L7, e7, f7, q7⟩ := r6.ax (c_say r6.2.1 (nI k) (nI j) (nI b))
        rcases q7 with ⟨_, _, q3⟩ | ⟨q1, N', r7, q3⟩
        · exact (q3 k j b rfl rfl rfl hkM hj b2 (by rw [sd_it sd (by omega) (by omega)]; exact n6) hS kn2).elim
        · have hN' := q3 k j b rfl rfl rfl hkM hj (by omega)
          have hsM : sb (it M k 5) (it M k 4) := by
            have := WN.say hW r6.b.2.2.2.2.2.1 hkM
            exact sb_and' this.2.2
          have sd' := sd_say sd hbit hS hsM hb2
          rw [← hN'] at sd'
          refine ⟨_, ?_, I7, L7, N', _, _, rfl, (f5.tr f6).tr f7, r7, sd', ?_⟩
          · show mL_lacked_l191f 99 (nI k) (nI (kf c)) (nI (ks c)) (nI (why T N k)) (nI (cntB (fun g => (kf c).testBit g) j)) (nI j) (hk σ I5 L5) = _
            unfold mL_lacked_l191f mL_lacked_b250
            rw [g3, obind, c_lt hj (by omega), bit_n (by omega) (by omega), hbit, if_neg (show ¬ bI true = 0 by decide), gX h.1, e6, b2s, if_neg (nI_ne0 (Nat.pos_of_ne_zero wne) (by omega)), gX h.1, bit_n (by omega) (by omega), bb, e7, b2s, if_neg q1, cntS, hbit, if_pos rfl, nI_1, nI_1]
          · rw [cntS, hbit, if_pos rfl]
            exact HB_psh hb a16 (by omega))
    (fun st hQ => by
      obtain ⟨I5, L5, M, a', P', rfl, f5, r5, sd, hb⟩ := hQ
      have g3 : gI 15 3 99 (hk σ I5 L5) = some (nI (T 1)) := by rw [gI_ok (s99 h.1), hpI_hk, r5.2.2.1]
      have hkM : k < M 18 := by rw [sd.1 18 (by omega) (by omega)]; exact hk'
      have full : ∀ z, sb z (kf c) → bs (fun g => z.testBit g) (T 1) = z := fun z hz => by
        apply Nat.eq_of_testBit_eq
        intro i
        rw [bsn]
        cases q : z.testBit i
        · rw [Bool.and_false]
        · have := hf i (hz i q)
          rw [fr2_bit, Bool.and_eq_true] at this
          rw [this.1, Bool.and_true]
      have w0 : why T M k = 0 := by
        unfold Jvm.Pilot.@@N@@.why
        rw [sd_fls sd, sd.2.1, sd.2.2, full _ (fun _ h => h), full _ hs]
        exact hfl
      obtain ⟨I6, L6, e6, r6, f6⟩ := r5.why hkM
      rw [w0] at e6
      obtain ⟨v, I7, L7, e7, f7, q7⟩ := c_lacks r6.2.1.1 r6.2.1.2.2.2 hkM (show 0 < 3 by omega)
      have r7 := r6.q f7
      have v0 : v = 0 := by
        rcases q7 with ⟨d, hd, hld, hmd, rfl⟩ | ⟨hno, _⟩
        · have hd0 : d = 0 := by
            apply Classical.byContradiction
            intro hne
            have := hmd 0 (by omega)
            rw [lok_0.mpr w0] at this; cases this
          subst hd0
          rfl
        · have := hno 0 (by omega)
          rw [lok_0.mpr w0] at this; cases this
      have e7 : mX11_lacks 100 (nI k) (0 : Int32) (hk σ I6 L6) = some (v, hk σ I7 L7) := e7
      rw [v0] at e7
      obtain ⟨I8, e8, f8, r8⟩ := l_taken (cntB (fun g => (kf c).testBit g) (T 1)) hb.le r7
      rw [hb.at] at r8
      obtain ⟨I9, L9, e9, r9, f9⟩ := r8.why hk'
      refine ⟨(1, hk σ I9 L9), ?_, I9, L9, rfl, (((f5.tr f6).tr f7.fL).tr f8).tr f9, r9.rn⟩
      show mL_lacked_l191f 99 (nI k) (nI (kf c)) (nI (ks c)) (nI (why T N k)) (nI (cntB (fun g => (kf c).testBit g) (T 1))) (nI (T 1)) (hk σ I5 L5) = _
      unfold mL_lacked_l191f
      rw [g3, obind, c_nlt (Nat.le_refl _) (by omega), gX h.1, e6, b2s, if_pos (show nI 0 = 0 from rfl), gX h.1, e7, b2s, if_pos rfl, e8, b2s, if_neg (by decide), gX h.1, e9, b2s, if_pos rfl, xts]) (s := (nI 0, nI 0, hk σ I L)) ⟨I, L, N, a, P, rfl, FrL.rf, h, ⟨fun _ _ _ => rfl, by show _ = _ ||| 0; rw [Nat.or_zero], by show _ = _ ||| 0; rw [Nat.or_zero]⟩, fun _ => rfl, fun q => absurd rfl q⟩
  exact ⟨I5, L5, e, f5, r5⟩
/-- lacked -/
theorem l_lacked (h : RB σ I L T N a P K Q n) (hk' : k < N 18) :
    ∃ I1 L1, mL_lacked 99 (nI k) (hk σ I L) = some (1, hk σ I1 L1) ∧ FrL I L I1 L1 ∧ RN σ I1 L1 T N K Q n := by
  obtain ⟨w1, w18, w16, n16, hW, hE⟩ := h.b
  obtain ⟨v1, I1, L1, e1, f1, q1⟩ := c_lacks h.2.1.1 h.2.1.2.2.2 hk' (show 0 < 3 by omega)
  have r1 := h.q f1
  obtain ⟨v2, I2, L2, e2, f2, q2⟩ := c_lacks r1.2.1.1 r1.2.1.2.2.2 hk' (show 1 < 3 by omega)
  have r2 := r1.q f2
  obtain ⟨v3, I3, L3, e3, f3, q3⟩ := c_lacks r2.2.1.1 r2.2.1.2.2.2 hk' (show 2 < 3 by omega)
  have r3 := r2.q f3
  obtain ⟨I4, L4, e4, r4, f4⟩ := r3.why hk'
  have e1 : mX11_lacks 100 (nI k) (0 : Int32) (hk σ I L) = some (v1, hk σ I1 L1) := e1
  have e2 : mX11_lacks 100 (nI k) (1 : Int32) (hk σ I1 L1) = some (v2, hk σ I2 L2) := e2
  have e3 : mX11_lacks 100 (nI k) (2 : Int32) (hk σ I2 L2) = some (v3, hk σ I3 L3) := e3
  have f0 : FrL I L I4 L4 := ((f1.fL.tr f2.fL).tr f3.fL).tr f4
  have wl : why T N k ≤ 6 := fls_le T N k (it N k 4) (it N k 5)
  have wc : ∀ {ρ : Type} (v : Nat) (A B : ρ), v ≤ 6 → (if nI (why T N k) = nI v then A else B) = if why T N k = v then A else B := fun v A B hv => c_eqd (by omega) (by omega)
  unfold mL_lacked
  rw [if_pos (s99 h.1), gX h.1, e1, b2s, gX h.1, e2, b2s, gX h.1, e3, b2s, gX h.1, e4, b2s]
  rcases q1 with ⟨c, hc, hl, hmin, rfl⟩ | ⟨hno, rfl⟩
  · obtain ⟨hf, hs, hp, hkn, hfl⟩ := lok_fls hl
    have kl := kf_lt c
    have sl := ks_lt c
    have p8 := pc_le (kf c)
    have uniq : ∀ d, lok T N k d = true → (∀ e, e < d → lok T N k e = false) → d = c := fun d h1 h2 => by
      rcases Nat.lt_trichotomy d c with q | q | q
      · rw [hmin d q] at h1; cases h1
      · exact q
      · rw [h2 c q] at hl; cases hl
    have e2v : v2 = nI (kf c) := by
      rcases q2 with ⟨d, _, h1, h2, rfl⟩ | ⟨hno, _⟩
      · rw [uniq d h1 h2]; rfl
      · rw [hno c hc] at hl; cases hl
    have e3v : v3 = nI (ks c) := by
      rcases q3 with ⟨d, _, h1, h2, rfl⟩ | ⟨hno, _⟩
      · rw [uniq d h1 h2]; rfl
      · rw [hno c hc] at hl; cases hl
    have n6 : it N k 6 ≠ 1 := (fls_0.mp hfl).1
    have ne1 : why T N k ≠ 1 := fun q => by
      unfold why at q
      unfold fls at q
      rw [if_neg n6] at q
      revert q
      repeat' split
      all_goals omega
    have ne4 : why T N k ≠ 4 := fun q => by
      have m4 := (fls_0.mp hfl).2.2.2.1
      unfold why at q
      unfold fls at q
      rw [if_neg n6] at q
      rw [m4] at q
      revert q
      repeat' split
      all_goals (first | omega | (intro; simp_all))
    have zz : pc (kf c) = 0 ↔ why T N k = 0 := by
      constructor
      · intro q
        have : c = 0 := by
          have k0 : kf c = 0 := by
            apply Nat.eq_of_testBit_eq
            intro i
            rw [Nat.zero_testBit]
            cases z : (kf c).testBit i
            · rfl
            · unfold pc at q
              rw [cntB_0] at q
              have hi : i < 8 := by
                have := hf i z
                rw [fr2_bit, Bool.and_eq_true] at this
                have := of_decide_eq_true this.1
                omega
              rw [anyB_iff.mpr ⟨i, hi, z⟩] at q; cases q
          have s0 : ks c = 0 := sb_of0 (by rw [← k0]; exact hs)
          unfold kf at k0
          unfold ks at s0
          omega
        subst this
        exact lok_0.mp hl
      · intro q
        have : c = 0 := by
          apply Classical.byContradiction
          intro hne
          have := hmin 0 (by omega)
          rw [lok_0.mpr q] at this; cases this
        subst this
        decide
    show ∃ I1 L1, (if nI (pc (kf c)) = 0 then mL_lacked_b55 99 (nI k) (nI (pc (kf c))) v2 v3 (nI (why T N k)) (0 : Int32) (1 : Int32) (hk σ I4 L4) else mL_lacked_b55 99 (nI k) (nI (pc (kf c))) v2 v3 (nI (why T N k)) (0 : Int32) (0 : Int32) (hk σ I4 L4)) = some (1, hk σ I1 L1) ∧ _
    have b123 : ∃ I1 L1, mL_lacked_b123 99 (nI k) (nI (pc (kf c))) (nI (kf c)) (nI (ks c)) (nI (why T N k)) (0 : Int32) (hk σ I4 L4) = some (1, hk σ I1 L1) ∧ FrL I L I1 L1 ∧ RN σ I1 L1 T N K Q n := by
      unfold mL_lacked_b123
      rw [show (4 : Int32) = nI 4 from rfl, wc 4 _ _ (by omega), if_neg ne4]
      unfold mL_lacked_b137
      rw [show (1 : Int32) = nI 1 from rfl, c_ltd (show pc (kf c) < 2147483648 by omega) (by omega)]
      by_cases hz : pc (kf c) = 0
      · have c0 : c = 0 := by
          apply Classical.byContradiction
          intro hne
          have := hmin 0 (by omega)
          rw [lok_0.mpr (zz.mp hz)] at this; cases this
        refine ⟨I4, L4, ?_, f0, r4.rn⟩
        rw [if_pos (by omega), c0]
        rfl
      · obtain ⟨I5, L5, e5, r5, f5⟩ := r4.of hk' (show 7 < 11 by omega)
        have e5 : mX11_of 100 (nI k) (7 : Int32) (hk σ I4 L4) = some (nI (it N k 4), hk σ I5 L5) := e5
        obtain ⟨I6, L6, e6, f6, r6⟩ := l_lack191 r5 hk' hc hl hmin
        refine ⟨I6, L6, ?_, (f0.tr f5).tr f6, r6⟩
        have az : nI (kf c) &&& nI (it N k 4) = 0 := by
          rw [nx_and]
          have : kf c &&& it N k 4 = 0 := by
            apply Nat.eq_of_testBit_eq
            intro i
            rw [Nat.testBit_and, Nat.zero_testBit]
            cases z : (kf c).testBit i
            · rfl
            · have := hf i z
              rw [fr2_bit, Bool.and_eq_true] at this
              have := this.2
              revert this
              cases (it N k 4).testBit i <;> simp
          rw [this]; rfl
        rw [if_neg (by omega), cbits_ok _ kl, obind, if_pos rfl, gX h.1, e5, b2s, if_pos az]
        exact e6
    obtain ⟨I6, L6, e6, f6, r6⟩ := b123
    refine ⟨I6, L6, ?_, f6, r6⟩
    have tail : ∀ t : Int32, t = (if why T N k = 0 then 1 else 0) → mL_lacked_b55 99 (nI k) (nI (pc (kf c))) v2 v3 (nI (why T N k)) (0 : Int32) t (hk σ I4 L4) = some (1, hk σ I6 L6) := fun t ht => by
      unfold mL_lacked_b55
      rw [c_0 (show why T N k < 2147483648 by omega)]
      have b65 : ∀ u : Int32, mL_lacked_b65 99 (nI k) (nI (pc (kf c))) v2 v3 (nI (why T N k)) (0 : Int32) u u (hk σ I4 L4) = some (1, hk σ I6 L6) := fun u => by
        unfold mL_lacked_b65
        rw [if_pos rfl, if_neg (nI_pos (by omega))]
        unfold mL_lacked_b77
        rw [e2v, if_neg (nI_pos (by omega))]
        unfold mL_lacked_b86
        rw [if_pos rfl, if_neg (nI_pos (by omega))]
        unfold mL_lacked_b98
        rw [e3v, if_neg (nI_pos (by omega))]
        unfold mL_lacked_b108
        rw [if_pos rfl, show (1 : Int32) = nI 1 from rfl, wc 1 _ _ (by omega), if_neg ne1]
        exact e6
      rw [ht]
      by_cases z : why T N k = 0
      · rw [if_pos z, if_pos z]; exact b65 1
      · rw [if_neg z, if_neg z]; exact b65 0
    rw [c_0 (show pc (kf c) < 2147483648 by omega)]
    by_cases z : why T N k = 0
    · rw [if_pos (zz.mpr z)]; exact tail 1 (by rw [if_pos z])
    · rw [if_neg (fun q => z (zz.mp q))]; exact tail 0 (by rw [if_neg z])
  · have e2v : v2 = -2 := by
      rcases q2 with ⟨d, hd, h1, _⟩ | ⟨_, q⟩
      · rw [hno d hd] at h1; cases h1
      · exact q
    have e3v : v3 = -2 := by
      rcases q3 with ⟨d, hd, h1, _⟩ | ⟨_, q⟩
      · rw [hno d hd] at h1; cases h1
      · exact q
    have wne : why T N k ≠ 0 := fun q => by have := hno 0 (by omega); rw [lok_0.mpr q] at this; cases this
    refine ⟨I4, L4, ?_, f0, r4.rn⟩
    rw [if_neg (by decide), e2v, e3v]
    unfold mL_lacked_b55
    rw [if_neg (nI_ne0 (Nat.pos_of_ne_zero wne) (by omega))]
    unfold mL_lacked_b65
    rw [if_pos rfl, if_pos (by decide)]
    unfold mL_lacked_b77
    rw [if_pos (by decide)]
    unfold mL_lacked_b86
    rw [if_pos rfl, if_pos (by decide)]
    unfold mL_lacked_b98
    rw [if_pos (by decide)]
    unfold mL_lacked_b108
    have b137 : mL_lacked_b137 99 (nI k) (-2) (-2) (-2) (nI (why T N k)) (0 : Int32) (hk σ I4 L4) = some (1, hk σ I4 L4) := by
      unfold mL_lacked_b137
      rw [if_pos (by decide), if_pos rfl]
    have b123 : mL_lacked_b123 99 (nI k) (-2) (-2) (-2) (nI (why T N k)) (0 : Int32) (hk σ I4 L4) = some (1, hk σ I4 L4) := by
      unfold mL_lacked_b123
      split
      · rw [if_pos rfl]; exact b137
      · exact b137
    rw [if_pos rfl]
    split
    · rw [if_pos rfl]; exact b123
    · exact b123
end E6
