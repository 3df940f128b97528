section E4
variable {σ σ' : Sg} {I I' I1 I2 : Nat → Nat → Int32} {L L' L1 L2 : Nat → Nat → Int64} {T N M : Nat → Nat} {a F n k : Nat} {P : Nat → Nat → Nat} {K : Nat → Bool} {Q : Nat → Nat → Nat}
/-- in a round, what is now is N -/
def RN (σ : Sg) (I : Nat → Nat → Int32) (L : Nat → Nat → Int64) (T N : Nat → Nat) (K : Nat → Bool) (Q : Nat → Nat → Nat) (n : Nat) : Prop := ∃ a P n', n' ≤ n ∧ RB σ I L T N a P K Q n'
theorem RB.rn (h : RB σ I L T N a P K Q n) : RN σ I L T N K Q n := ⟨a, P, n, Nat.le_refl _, h⟩
theorem RB.how (h : RB σ I L T N a P K Q n) (hk' : k < N 18) : ∃ I1 L1, mX11_judged 100 (nI k) (hk σ I L) = some (how3 (lft T N) (won T (it N k 0)), hk σ I1 L1) ∧ RB σ I1 L1 T N a P K Q n ∧ FrL I L I1 L1 := by
  obtain ⟨L1, e, f⟩ := c_judged h.2.1.1 hk'
  exact ⟨I, L1, e, h.q f, f.fL⟩
/-- a proof, drawn, made fact by fact -/
theorem l_proved (h : RB σ I L T N a P K Q n) (hn : n < 100000000) (hk' : k < N 18) (wn : Bool) (hx : ∃ w, w < 256 ∧ lft T N w = true ∧ won T (it N k 0) w = wn) :
    ∃ I1 L1, mL_proved 99 (nI k) (bI wn) (hk σ I L) = some (1, hk σ I1 L1) ∧ FrL I L I1 L1 ∧ RN σ I1 L1 T N K Q (n + 1) := by
  obtain ⟨w1, w18, w16, n16, hW, hE⟩ := h.b
  obtain ⟨I1, L1, e1, f1⟩ := c_proofs h.2.1.1 h.2.1.2.2.2 hk' wn
  have r1 := h.q f1
  have pz := kq_some (k := k) (wn := wn) hW hx
  have cl := kq_cnt (T := T) (N := N) (k := k) (wn := wn) 589824
  unfold mL_proved
  rw [if_pos (s99 h.1), gX h.1, e1, b2s, show ((1 : Int32)) = nI 1 from rfl, c_nlt (show 1 ≤ cntB (kq T N k wn) 589824 from pz) (by omega)]
  obtain ⟨i, I2, hi, e2, r2, f2⟩ := r1.draw (by omega) (m := cntB (kq T N k wn) 589824) pz (by omega)
  rw [e2, b2s, gX h.1]
  obtain ⟨c, I3, L3, hc, hq, hci, e3, f3⟩ := c_proof r2.2.1.1 r2.2.1.2.2.2 hk' wn hi (show 0 < 2 by omega)
  have e3 : mX11_proof 100 (nI k) (bI wn) (nI i) (0 : Int32) (hk σ I2 L1) = some (nI (kf c), hk σ I3 L3) := e3
  have r3 := r2.q f3
  rw [e3, b2s, gX h.1]
  obtain ⟨c', I4, L4, hc', hq', hci', e4, f4⟩ := c_proof r3.2.1.1 r3.2.1.2.2.2 hk' wn hi (show 1 < 2 by omega)
  obtain rfl : c' = c := cnt_inj hq' hq (by rw [hci, hci'])
  have e4 : mX11_proof 100 (nI k) (bI wn) (nI i) (nI 1) (hk σ I3 L3) = some (nI (ks c'), hk σ I4 L4) := e4
  have r4 := r3.q f4
  rw [e4, b2s]
  have f0 : FrL I L I4 L4 := ((f1.fL.tr f2).tr f3.fL).tr f4.fL
  obtain ⟨hf, hs, ⟨w0, hw0, hl0, he0⟩, hall, hmin⟩ := kq_is hW hq
  have won0 := hall w0 hw0 hl0 he0
  have kl := kf_lt c'
  have sl := ks_lt c'
  unfold mL_proved_l58
  obtain ⟨o, e, I5, L5, rfl, f5, r5⟩ := lp_inv (f := fun s : (Int32 × Int32 × Hp) => mL_proved_l58f 99 (nI k) (bI wn) (nI (kf c')) (nI (ks c')) s.1 s.2.1 s.2.2) (T 1)
    (fun j st => ∃ I5 L5 M a' P', st = (nI (cntB (fun g => (kf c').testBit g) j), nI j, hk σ I5 L5) ∧ FrL I L I5 L5 ∧ RB σ I5 L5 T M a' P' K Q (n + 1) ∧ MD T N M (kf c') (ks c') j ∧ HB a' P' M N (cntB (fun g => (kf c').testBit g) j))
    (fun o => ∃ I5 L5, o = (1, hk σ I5 L5) ∧ FrL I L I5 L5 ∧ RN σ I5 L5 T N K Q (n + 1))
    (fun j st hj hQ => by
      obtain ⟨I5, L5, M, a', P', rfl, f5, r5, md, hb⟩ := hQ
      have hcj := cntB_le (fun g => (kf c').testBit g) j
      have g3 : gI 15 3 99 (hk σ I5 L5) = some (nI (T 1)) := by rw [gI_ok (s99 h.1), hpI_hk, r5.2.2.1]
      have head : mL_proved_l58f 99 (nI k) (bI wn) (nI (kf c')) (nI (ks c')) (nI (cntB (fun g => (kf c').testBit g) j)) (nI j) (hk σ I5 L5) = if bI ((kf c').testBit j) = 0 then some (.inl (nI (cntB (fun g => (kf c').testBit g) j), nI (j + 1), hk σ I5 L5)) else
          b2 (mX11_judged 100 (nI k) (hk σ I5 L5)) fun v21 h22 => if v21 = (2 : Int32) then (b2 (mL_makes 99 (nI j) (bI ((ks c').testBit j)) h22) fun v23 h24 => if v23 = 0 then (xt (some ((0 : Int32), h24))) else (some (.inl (nI (cntB (fun g => (kf c').testBit g) j) + 1, nI (j + 1), h24)))) else (xt (some ((0 : Int32), h22))) := by
        unfold mL_proved_l58f mL_proved_b113
        rw [g3, obind, c_lt hj (by omega), bit_n (by omega) (by omega), bit_n (by omega) (by omega), gX h.1, nI_1]
      cases hbit : (kf c').testBit j
      · refine ⟨_, ?_, I5, L5, M, a', P', rfl, f5, r5, md.skip hbit, ?_⟩
        · show mL_proved_l58f 99 (nI k) (bI wn) (nI (kf c')) (nI (ks c')) (nI (cntB (fun g => (kf c').testBit g) j)) (nI j) (hk σ I5 L5) = _
          rw [head, hbit, if_pos (show bI false = 0 from rfl), cntS, hbit, if_neg (by decide)]
          rfl
        · rw [cntS, hbit, if_neg (by decide), Nat.add_zero]; exact hb
      · have h18M : M 18 = N 18 := md.2.2.2.2
        have hkM : k < M 18 := by omega
        have iM : it M k 0 = it N k 0 := md.2.2.1 k
        obtain ⟨v1, hv1, vl1, ve1, vw1⟩ := hmin j hbit
        have h2 : how3 (lft T M) (won T (it M k 0)) = 2 := by
          have a1 := md.in hw0 hl0 he0
          have a2 := md.inr hv1 vl1 ve1
          cases wn
          · exact how_2 ⟨v1, hv1, a2, by rw [iM]; exact vw1⟩ ⟨w0, hw0, a1, by rw [iM]; exact won0⟩
          · exact how_2 ⟨w0, hw0, a1, by rw [iM]; exact won0⟩ ⟨v1, hv1, a2, by rw [iM]; exact vw1⟩
        obtain ⟨I6, L6, e6, r6, f6⟩ := r5.how hkM
        rw [h2] at e6
        have hkn : kn M j = false := by
          rw [md.2.1 j (Nat.le_refl _) (by omega)]
          have := hf j hbit
          rw [fre_bit, knb N (show j < 8 by omega), Bool.and_eq_true] at this
          simpa using this.2
        obtain ⟨so, hso⟩ : ∃ so, so = if (ks c').testBit j = true then 1 else 0 := ⟨_, rfl⟩
        have so2 : so < 2 := by rw [hso]; split <;> omega
        have sob : bI ((ks c').testBit j) = nI so := by rw [hso]; cases (ks c').testBit j <;> rfl
        have sod : decide (so = 1) = (ks c').testBit j := by rw [hso, dif1]
        obtain ⟨v, I7, L7, e7, f7, q7⟩ := l_makes r6 hj so2 hkn
        have a16 : a' ≤ 16 := r6.b.2.2.1
        rcases q7 with ⟨_, _, q3⟩ | ⟨rfl, how, hh, _, r7⟩
        · exfalso
          rw [sod] at q3
          unfold sme at q3
          have a1 := md.in hw0 hl0 he0
          have a2 : w0.testBit j = (ks c').testBit j := by rw [← he0, Nat.testBit_and, hbit, Bool.and_true]
          rw [anyB_iff.mpr ⟨w0, hw0, by rw [a1, a2]; simp⟩] at q3
          cases q3
        · refine ⟨_, ?_, I7, L7, mkn M j how so, _, _, rfl, (f5.tr f6).tr f7, r7, md.make hW hj hbit hkn hh hso, ?_⟩
          · show mL_proved_l58f 99 (nI k) (bI wn) (nI (kf c')) (nI (ks c')) (nI (cntB (fun g => (kf c').testBit g) j)) (nI j) (hk σ I5 L5) = _
            rw [head, hbit, if_neg (show ¬ bI true = 0 by decide), e6, b2s, if_pos rfl, sob, e7, b2s, if_neg (by decide), cntS, hbit, if_pos rfl, nI_1]
          · rw [cntS, hbit, if_pos rfl]
            exact HB_psh hb a16 (by omega))
    (fun st hQ => by
      obtain ⟨I5, L5, M, a', P', rfl, f5, r5, md, hb⟩ := hQ
      have h18M : M 18 = N 18 := md.2.2.2.2
      have hkM : k < M 18 := by omega
      have iM : it M k 0 = it N k 0 := md.2.2.1 k
      have g3 : gI 15 3 99 (hk σ I5 L5) = some (nI (T 1)) := by rw [gI_ok (s99 h.1), hpI_hk, r5.2.2.1]
      obtain ⟨I6, L6, e6, r6, f6⟩ := r5.how hkM
      have hout : ∀ w, w < 256 → lft T M w = true → won T (it M k 0) w = wn := fun w hw hl => by
        obtain ⟨o1, o2⟩ := md.out (fun g hg => fre_T hf hg) hs hw hl
        rw [iM]; exact hall w hw o1 o2
      have hM : how3 (lft T M) (won T (it M k 0)) = bI wn := by
        cases wn
        · exact how_0 r5.b.2.2.2.2.2.1 hout
        · exact how_1 hout
      have hpc : cntB (fun g => (kf c').testBit g) (T 1) = pc (kf c') := by
        unfold pc
        rw [cnt_gap w1 fun g h1 _ => by
          cases q : (kf c').testBit g
          · rfl
          · have := fre_T hf q; omega]
      rw [hM] at e6
      have hz : nI (ks c') &&& (nI (kf c') ^^^ (-1 : Int32)) = 0 := by
        rw [nx_not (by omega), sb_iff.mpr hs]; rfl
      have tail : ∀ Lx Ix, RB σ Ix Lx T M a' P' K Q (n + 1) → FrL I L Ix Lx → ∃ I8, mL_proved_b136 99 (nI (kf c')) (nI (ks c')) (nI (cntB (fun g => (kf c').testBit g) (T 1))) (bI wn) (bI wn) (hk σ Ix Lx) = some (1, hk σ I8 Lx) ∧ FrL I L I8 Lx ∧ RN σ I8 Lx T N K Q (n + 1) := fun Lx Ix rx fx => by
        obtain ⟨I8, e8, f8, r8⟩ := l_taken (cntB (fun g => (kf c').testBit g) (T 1)) hb.le rx
        rw [hb.at] at r8
        refine ⟨I8, ?_, fx.tr f8, r8.rn⟩
        unfold mL_proved_b136
        rw [if_pos rfl, hz, if_pos rfl, cbits_ok _ kl, obind, hpc, if_pos rfl, ← hpc, e8, b2s, if_neg (by decide)]
      obtain ⟨I8, e8, f8, r8⟩ := tail L6 I6 r6 (f5.tr f6)
      refine ⟨(1, hk σ I8 L6), ?_, I8, L6, rfl, f8, r8⟩
      show mL_proved_l58f 99 (nI k) (bI wn) (nI (kf c')) (nI (ks c')) (nI (cntB (fun g => (kf c').testBit g) (T 1))) (nI (T 1)) (hk σ I5 L5) = _
      unfold mL_proved_l58f
      rw [g3, obind, c_nlt (Nat.le_refl _) (by omega), gX h.1, e6, b2s]
      cases wn
      · rw [if_pos (show bI false = 0 from rfl)]
        have e8 : mL_proved_b136 99 (nI (kf c')) (nI (ks c')) (nI (cntB (fun g => (kf c').testBit g) (T 1))) (bI false) (0 : Int32) (hk σ I6 L6) = _ := e8
        rw [e8, xts]
      · rw [if_neg (show ¬ bI true = 0 by decide)]
        have e8 : mL_proved_b136 99 (nI (kf c')) (nI (ks c')) (nI (cntB (fun g => (kf c').testBit g) (T 1))) (bI true) (1 : Int32) (hk σ I6 L6) = _ := e8
        rw [e8, xts]) (s := (nI 0, nI 0, hk σ I4 L4)) ⟨I4, L4, N, a, P, rfl, f0, r4, MD.z, fun _ => rfl, fun q => absurd rfl q⟩
  exact ⟨I5, L5, e, f5, r5⟩
end E4
