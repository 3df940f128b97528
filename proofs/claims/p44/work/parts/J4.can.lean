/-! WHICH WORLDS can be, as the law asks it -/
def NV (h : Hp) (na F q : Nat) (f : Nat → Nat) (Ts : Nat → Tr 2) : Prop := AL h na q f ∧ ∀ i, i < q → SA h 2 (f i) (Ts i) ∧ okT F 2 (Ts i)
def canB (Ts : Nat → Tr 2) (q w : Nat) : Bool := allB (fun i => !hT 2 (Ts i) w) q
section J4
variable {h h' h0 h1 h2 h3 : Hp} {P P' : Nat → Prop} {c c' s s' z a b n x y m F q oa na ma ua su nl lo d w e v : Nat} {t u : List Nat} {l l' : List Nat} {f g : Nat → Nat} {Ts : Nat → Tr 2}
theorem NV.gk (v : NV h na F q f Ts) (e : GK l h h1 c s) (hl : 19 ∉ l ∧ 78 ∉ l ∧ 14 ∉ l ∧ 73 ∉ l) : NV h1 na F q f Ts :=
  ⟨v.1.gk e ⟨hl.1, hl.2.1⟩, fun i hi => ⟨e.sa (v.2 i hi).1 hl.2.2.1 hl.2.2.2, (v.2 i hi).2⟩⟩
theorem l_can (lw : LWs h oa na ma ua su) (li : LWi h n F nl) (hC : CLO h) (hv : NV h na F q f Ts) (F8 : F ≤ 8) (hw : w < 2 ^ F) : ∃ h', mL_can 99 (nI w) h = some (bI (canB Ts q w), h') ∧ Gw h h' nP 1 4 := by
  have p256 := ev_lt F8
  have k16 : (hpS h 99).1 = 16 := lw.k99
  obtain ⟨al, tr⟩ := hv
  have kA := al.k
  have kA' : (hpS h na).1 = 19 := kA
  obtain ⟨a1, a2, a3, a4, a5, a6⟩ := id al
  have w1 := lw.1
  have ne : na ≠ hpN h := by omega
  -- the iterator
  have kn : (hpS (hpNew 20 4 h) (hpN h)).1 = 19 + 1 := by rw [nw_S, if_pos rfl]
  obtain ⟨g1, hg1⟩ : ∃ g1, g1 = setI (setI (setR (hpNew 20 4 h) (hpN h) (updA (hpR (hpNew 20 4 h) (hpN h)) 3 na)) (hpN h) (updA (hpI (hpNew 20 4 h) (hpN h)) 1 (-1))) (hpN h) (updA (updA (hpI (hpNew 20 4 h) (hpN h)) 1 (-1)) 2 (hpI h na 0)) := ⟨_, rfl⟩
  have G0 := (Gw.rf (h := h) (P := nP) 0 0).nw 20 4
  have G1 : Gw h g1 nP 1 4 := by
    rw [hg1]
    have := ((G0.sR (a := hpN h) (r := updA (hpR (hpNew 20 4 h) (hpN h)) 3 na) (fun z => by omega) (fun z => by
      unfold txk at z
      rw [kn] at z
      omega)).sI (a := hpN h) (r := updA (hpI (hpNew 20 4 h) (hpN h)) 1 (-1)) (fun z => by omega)).sI (a := hpN h) (r := updA (updA (hpI (hpNew 20 4 h) (hpN h)) 1 (-1)) 2 (hpI h na 0)) (fun z => by omega)
    exact this
  have S1 : hpS g1 (hpN h) = (20, 4) := by rw [hg1]; show hpS (hpNew 20 4 h) (hpN h) = _; rw [nw_S, if_pos rfl]
  have R1 : hpR g1 (hpN h) 3 = na := by rw [hg1, setI_Rf, setI_Rf, setR_R, if_pos rfl, updA_same]
  have I0 : hpI g1 (hpN h) 0 = 0 := by rw [hg1, setI_I, if_pos rfl, updA_ne _ _ (by omega), updA_ne _ _ (by omega), nw_I0]
  have I2 : hpI g1 (hpN h) 2 = hpI h na 0 := by rw [hg1, setI_I, if_pos rfl, updA_same]
  have N1 : hpN g1 = hpN h + 1 := by rw [hg1]; rfl
  have sh : (nI w >>> (nI F &&& 31)) = 0 := by
    rw [nx_shr (by omega) (by omega), Nat.shiftRight_eq_div_pow, Nat.div_eq_of_lt hw]; rfl
  have mk : mJx4a65c_iterator_32c93 na h = some (hpN h, g1) := by
    unfold mJx4a65c_iterator_32c93 mJx35411_init_45d68
    rw [if_pos kA', newO_ok 19 4 hC.1, b2s, sR_ok kn, obind, sI_ok (by exact kn), obind, gR_ok (by exact kn), obind]
    have e3 : hpR (setI (setR (hpNew 20 4 h) (hpN h) (updA (hpR (hpNew 20 4 h) (hpN h)) 3 na)) (hpN h) (updA (hpI (setR (hpNew 20 4 h) (hpN h) (updA (hpR (hpNew 20 4 h) (hpN h)) 3 na)) (hpN h)) 1 (-1))) (hpN h) 3 = na := by rw [setI_Rf, setR_R, if_pos rfl, updA_same]
    have k19 : (hpS (setI (setR (hpNew 20 4 h) (hpN h) (updA (hpR (hpNew 20 4 h) (hpN h)) 3 na)) (hpN h) (updA (hpI (setR (hpNew 20 4 h) (hpN h) (updA (hpR (hpNew 20 4 h) (hpN h)) 3 na)) (hpN h)) 1 (-1))) na).1 = 18 + 1 := by
      show (hpS (hpNew 20 4 h) na).1 = _
      rw [nw_S, if_neg ne]; exact kA
    rw [e3, gI_ok k19, obind, sI_ok (by exact kn), obind, obind, hg1]
    have e0 : hpI (setI (setR (hpNew 20 4 h) (hpN h) (updA (hpR (hpNew 20 4 h) (hpN h)) 3 na)) (hpN h) (updA (hpI (setR (hpNew 20 4 h) (hpN h) (updA (hpR (hpNew 20 4 h) (hpN h)) 3 na)) (hpN h)) 1 (-1))) na 0 = hpI h na 0 := by
      rw [setI_I, if_neg ne]
      show hpI (hpNew 20 4 h) na 0 = _
      rw [nw_I ne]
    have e1 : hpI (setI (setR (hpNew 20 4 h) (hpN h) (updA (hpR (hpNew 20 4 h) (hpN h)) 3 na)) (hpN h) (updA (hpI (setR (hpNew 20 4 h) (hpN h) (updA (hpR (hpNew 20 4 h) (hpN h)) 3 na)) (hpN h)) 1 (-1))) (hpN h) = updA (hpI (hpNew 20 4 h) (hpN h)) 1 (-1) := by
      rw [setI_I, if_pos rfl]; rfl
    rw [e0, e1]
    rfl
  unfold mL_can
  rw [if_pos k16, gI_ok lw.k99, obind, li.2.1, if_pos sh, gR_ok lw.k99, obind, lw.2.1.2.2.2.2.1, mk, b2s]
  unfold mL_can_l19
  obtain ⟨o, eo, h', rfl, G'⟩ := lp_invX (f := fun s : Hp => mL_can_l19f (nI w) (hpN h) s) q
    (fun i st => Gw h st nP 1 4 ∧ hpS st (hpN h) = (20, 4) ∧ hpR st (hpN h) 3 = na ∧ hpI st (hpN h) 0 = nI i ∧ hpI st (hpN h) 2 = hpI h na 0 ∧ hpN st = hpN h + 1 ∧ ∀ j, j < i → hT 2 (Ts j) w = false)
    (fun o => ∃ h', o = (bI (canB Ts q w), h') ∧ Gw h h' nP 1 4)
    (fun i st hi hQ => by
      obtain ⟨G, S, R, J, K, N, hf⟩ := hQ
      have ks : (hpS st (hpN h)).1 = 19 + 1 := by rw [S]
      have ks' : (hpS st (hpN h)).1 = 20 := ks
      obtain ⟨n1, n2, n3, n4⟩ := G.sm a2 (fun z => z)
      have kn' : (hpS st na).1 = 18 + 1 := by rw [n1]; exact kA
      rcases a6 with ⟨z, _⟩ | ⟨d1, d2, d3, d4⟩
      · omega
      obtain ⟨e1, e2, e3, e4⟩ := G.sm d2 (fun z => z)
      have sd : hpS st (hpR h na 1) = (78, 10) := by rw [e1]; exact d3
      have oL : oLn (hpR h na 1) st = some (nI 10) := by unfold oLn; rw [if_neg (by omega), aLen_ok sd (by decide)]
      obtain ⟨g2, hg2⟩ : ∃ g2, g2 = setI (setI st (hpN h) (updA (hpI st (hpN h)) 0 (nI (i + 1)))) (hpN h) (updA (updA (hpI st (hpN h)) 0 (nI (i + 1))) 1 (nI i)) := ⟨_, rfl⟩
      have G2 : Gw h g2 nP 1 4 := by
        rw [hg2]
        exact (G.sI (a := hpN h) (fun z => by omega)).sI (a := hpN h) (fun z => by omega)
      have nx : mJx35411_next_0502b (hpN h) st = some (f i, g2) := by
        unfold mJx35411_next_0502b mJx35411_checkForComodification_da8c8
        rw [if_pos ks', if_pos ks', gR_ok ks, obind, R, gI_ok kn', obind, gI_ok ks, obind, K, n2, if_pos rfl, obind, gI_ok ks, obind, J, obind, gI_ok kn', obind, n2, a4, c_lt hi (by omega), obind, gR_ok kn', obind, n4, oL, obind, c_lt (by omega) (by omega), nI_1, sI_ok ks, obind, sI_ok (by exact ks), obind, ldR_ok (n := 10) (by exact sd) (by omega) (by omega), obind]
        have r1 : hpR (setI (setI st (hpN h) (updA (hpI st (hpN h)) 0 (nI (i + 1)))) (hpN h) (updA (hpI (setI st (hpN h) (updA (hpI st (hpN h)) 0 (nI (i + 1)))) (hpN h)) 1 (nI i))) (hpR h na 1) i = f i := by
          show hpR st (hpR h na 1) i = _
          rw [e4]; exact d4 i hi
        have r2 : hpI (setI st (hpN h) (updA (hpI st (hpN h)) 0 (nI (i + 1)))) (hpN h) = updA (hpI st (hpN h)) 0 (nI (i + 1)) := by rw [setI_I, if_pos rfl]
        rw [r1, r2, hg2]
      have hn : mJx35411_hasNext_aae02 (hpN h) st = some 1 := by
        unfold mJx35411_hasNext_aae02
        rw [if_pos ks', gI_ok ks, obind, J, gR_ok ks, obind, R, gI_ok kn', obind, n2, a4, c_eqd (by omega) (by omega), if_neg (by omega)]
      have sa := ((tr i hi).1).fr G2
      have hd := sa.hd
      have k14 : (hpS g2 (f i)).1 = 14 := hd.2.2.1
      have ho := l_hold1 (w := w) (Nat.le_refl 2) (by omega) sa ((tr i hi).2.mono F8)
      have st1 : mL_can_l19f (nI w) (hpN h) st = if bI (hT 2 (Ts i) w) = 0 then some (Sum.inl g2) else xt (some ((0 : Int32), g2)) := by
        unfold mL_can_l19f
        rw [hn, obind, if_neg (show ¬ (1 : Int32) = 0 by decide), nx, b2s, if_pos (Or.inr k14), ho, b2s]
      cases hb : hT 2 (Ts i) w
      · refine Or.inl ⟨g2, ?_, G2, ?_, ?_, ?_, ?_, ?_, fun j hj => ?_⟩
        · show mL_can_l19f (nI w) (hpN h) st = _
          rw [st1, hb, if_pos (by rfl)]
        · rw [hg2]; exact S
        · rw [hg2]; exact R
        · rw [hg2, setI_I, if_pos rfl, updA_ne _ _ (by omega), updA_same]
        · rw [hg2, setI_I, if_pos rfl, updA_ne _ _ (by omega), updA_ne _ _ (by omega)]; exact K
        · rw [hg2]; exact N
        · by_cases z : j = i
          · rw [z]; exact hb
          · exact hf j (by omega)
      · refine Or.inr ⟨(0, g2), ?_, g2, ?_, G2⟩
        · show mL_can_l19f (nI w) (hpN h) st = _
          rw [st1, hb, if_neg (by decide), xts]
        · have : canB Ts q w = false := by
            unfold canB
            cases ha : allB (fun i => !hT 2 (Ts i) w) q
            · rfl
            · have := allB_iff.mp ha i hi
              rw [hb] at this; cases this
          rw [this]; rfl)
    (fun st hQ => by
      obtain ⟨G, S, R, J, K, N, hf⟩ := hQ
      have ks : (hpS st (hpN h)).1 = 19 + 1 := by rw [S]
      have ks' : (hpS st (hpN h)).1 = 20 := ks
      obtain ⟨n1, n2, n3, n4⟩ := G.sm a2 (fun z => z)
      have kn' : (hpS st na).1 = 18 + 1 := by rw [n1]; exact kA
      refine ⟨(1, st), ?_, st, ?_, G⟩
      · show mL_can_l19f (nI w) (hpN h) st = _
        unfold mL_can_l19f mJx35411_hasNext_aae02
        rw [if_pos ks', gI_ok ks, obind, J, gR_ok ks, obind, R, gI_ok kn', obind, n2, a4, if_pos rfl, obind, if_pos rfl, xts]
      · have : canB Ts q w = true := by
          unfold canB
          exact allB_iff.mpr fun i hi => by rw [hf i hi]; rfl
        rw [this]; rfl)
    (i := 0) (s := g1) (Nat.zero_le _) ⟨G1, S1, R1, by rw [I0]; rfl, I2, N1, fun j hj => absurd hj (Nat.not_lt_zero _)⟩
  exact ⟨h', eo, G'⟩
theorem l_some (lw : LWs h oa na ma ua su) (li : LWi h n F nl) (hC : CLO h) (hv : NV h na F q f Ts) (F8 : F ≤ 8) : ∃ h', mL_some 99 h = some (bI (anyB (canB Ts q) (2 ^ F)), h') ∧ Gw h h' nP 256 1024 := by
  have p256 := ev_lt F8
  have k16 : (hpS h 99).1 = 16 := lw.k99
  unfold mL_some mL_some_l2
  rw [if_pos k16]
  obtain ⟨o, eo, h', rfl, G'⟩ := lp_invX (f := fun s : (Int32 × Hp) => mL_some_l2f 99 s.1 s.2) (2 ^ F)
    (fun i st => ∃ h1, st = (nI i, h1) ∧ Gw h h1 nP (1 * i) (4 * i) ∧ ∀ j, j < i → canB Ts q j = false)
    (fun o => ∃ h', o = (bI (anyB (canB Ts q) (2 ^ F)), h') ∧ Gw h h' nP 256 1024)
    (fun i st hi hQ => by
      obtain ⟨h1, rfl, G, hf⟩ := hQ
      have gg := G.gk0 []
      have lw1 := lw.gk gg (by decide)
      have li1 := li.gk lw.1 gg (by decide)
      obtain ⟨h2, e2, G2⟩ := l_can (w := i) lw1 li1 (hC.ex G) (hv.gk gg (by decide)) F8 hi
      have G3 := G.tr G2 (fun _ _ z => z)
      have st1 : mL_some_l2f 99 (nI i) h1 = if bI (canB Ts q i) = 0 then some (Sum.inl (nI (i + 1), h2)) else xt (some ((1 : Int32), h2)) := by
        unfold mL_some_l2f
        rw [gI_ok lw1.k99, obind, li1.2.1, nx_shl1 F (by omega), c_lt hi (by omega), e2, b2s, nI_1]
      cases hb : canB Ts q i
      · refine Or.inl ⟨(nI (i + 1), h2), ?_, h2, rfl, G3.up (fun _ _ z => z) (by omega) (by omega), fun j hj => ?_⟩
        · show mL_some_l2f 99 (nI i) h1 = _
          rw [st1, hb, if_pos (by rfl)]
        · by_cases z : j = i
          · rw [z]; exact hb
          · exact hf j (by omega)
      · refine Or.inr ⟨(1, h2), ?_, h2, ?_, G3.up (fun _ _ z => z) (by omega) (by omega)⟩
        · show mL_some_l2f 99 (nI i) h1 = _
          rw [st1, hb, if_neg (by decide), xts]
        · rw [anyB_iff.mpr ⟨i, hi, hb⟩]; rfl)
    (fun st hQ => by
      obtain ⟨h1, rfl, G, hf⟩ := hQ
      have gg := G.gk0 []
      have lw1 := lw.gk gg (by decide)
      have li1 := li.gk lw.1 gg (by decide)
      refine ⟨(0, h1), ?_, h1, ?_, G.up (fun _ _ z => z) (by omega) (by omega)⟩
      · show mL_some_l2f 99 (nI (2 ^ F)) h1 = _
        unfold mL_some_l2f
        rw [gI_ok lw1.k99, obind, li1.2.1, nx_shl1 F (by omega), c_nlt (Nat.le_refl _) (by omega), xts]
      · have : anyB (canB Ts q) (2 ^ F) = false := by
          cases ha : anyB (canB Ts q) (2 ^ F)
          · rfl
          · obtain ⟨j, h1, h2⟩ := anyB_iff.mp ha
            rw [hf j h1] at h2; cases h2
        rw [this]; rfl)
    (i := 0) (s := ((0 : Int32), h)) (Nat.zero_le _) ⟨h, rfl, Gw.rf _ _, fun j hj => absurd hj (Nat.not_lt_zero _)⟩
  exact ⟨h', eo, G'⟩
end J4
