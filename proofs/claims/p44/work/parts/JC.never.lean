/-! TOLD: nevers, the limit -/
def neverW : List Nat := [110, 101, 118, 101, 114]
def limitW : List Nat := [108, 105, 109, 105, 116]
/-- what is told ahead of counts -/
def NI (v : Vt) (F q : Nat) (Ts : Nat → Tr 2) : Prop := v.1 = F ∧ v.2.1 = 0 ∧ v.2.2.1 = q ∧ v.2.2.2.1 = 0 ∧ v.2.2.2.2.1 = 0 ∧ (∀ x, v.2.2.2.2.2.1 x = 0 ∧ v.2.2.2.2.2.2.1 x = 0) ∧ ∀ w, v.2.2.2.2.2.2.2 w = canB Ts q w
section JC
variable {h h' h0 h00 h1 h2 h3 : Hp} {P P' : Nat → Prop} {c c' s s' z a b n n' x y m F q oa na ma ua su ca nl lo d w e tb k S cn c0 s0 cnts J C s2 x5 x6 bb lb r : Nat} {t u t1 : List Nat} {l l' : List Nat} {f g : Nat → Nat} {R Rk Rb : List (Nat × Nat)} {v v' : Vt} {Ts : Nat → Tr 2}
theorem SUI.lst (w : SUI h su ca na ua k) (hns : su ≠ na) (e : GK [19, 78] h h1 c s) (hb : ∀ b, b < hpN h → hpS h1 b = hpS h b ∧ (b ≠ na → (hpS h b).1 ≠ 78 → hpI h1 b = hpI h b ∧ hpR h1 b = hpR h b)) : SUI h1 su ca na ua k := by
  obtain ⟨⟨w1, w2, w3, w4, w5, w6⟩, g, w7⟩ := w
  have le := e.le
  have r := (hb su w2).2 hns (by rw [w3]; show 15 ≠ 78; omega)
  have cc := (hb ca w7.2.1).2 w6 (by rw [w7.2.2.1]; show 19 ≠ 78; omega)
  exact ⟨⟨w1, by omega, by rw [(hb su w2).1]; exact w3, by rw [r.2]; exact w4, w5, w6⟩, w7.shp le (fun b h => (hb b h).1) cc.1 cc.2⟩
/-- nothing that can't be is told behind this: limit, counts -/
theorem lim_ok (KT : KTX h00 tb oa na ma ua su F) (T : TT h00 h tb oa na ma ua su n F nl t R v c s) (hU : SUI h su ca na ua 0) (hA : ∃ q f, AL h na q f) (hv : NI v F q Ts) (F1 : 1 ≤ F) (F8 : F ≤ 8) (hn : n + 4000 < 1000000000) (hcn : cnts ≤ 5) :
    ∃ h', (b2 (mL_draw 99 (2 : Int32) h) fun v27 h28 => if v27 = 0 then (b2 (mL_draw 99 (600 : Int32) h28) fun v210 h211 => (sI 15 4 99 ((1 : Int32) + v210) h211).bind fun h212 => b2 (newO 16 4 h212) fun v214 h213 => (mJ4_init_da8c8 v214 h213).bind fun h216 => b2 (mJ4_append_15ec4 v214 24 h216) fun v217 h218 => (gI 15 4 99 h218).bind fun v219 => b2 (mJ4_append_bf812 v217 v219 h218) fun v220 h221 => b2 (mJ4_toString_0e30d v220 h221) fun v222 h223 => b2 (mL_fits 99 tb v222 h223) fun v224 h225 => mL_told_b387 99 (nI cnts) tb h225) else (mL_told_b387 99 (nI cnts) tb h28)) = some (1, h') ∧ TD h00 h' oa na ma ua su (n + 1320) (c + 15102) (s + 1521000) := by
  obtain ⟨v1, v2, v3, v4, v5, v6, v7⟩ := id hv
  have cv : ∀ l, CV (v.1, v.2.1, v.2.2.1, v.2.2.2.1, l, v.2.2.2.2.2) F 0 := fun l => ⟨v1, v2, by show v.2.2.2.1 ≤ 0; omega, fun x _ => v6 x⟩
  have cv0 : CV v F 0 := ⟨v1, v2, by omega, fun x _ => v6 x⟩
  obtain ⟨j, h1, hj, e1, q1, g1⟩ := T.1.draw (by omega) (m := 2) (by omega) (by omega)
  have e1 : mL_draw 99 (2 : Int32) h = some (nI j, h1) := e1
  have T1 := TT.gk T g1 (by decide) q1
  have U1 := hU.gk g1 (by decide)
  have A1 : ∃ q f, AL h1 na q f := by obtain ⟨q, f, A⟩ := hA; exact ⟨q, f, A.gk g1 (by decide)⟩
  rw [e1, b2s, c_0 (by omega)]
  unfold mL_told_b387
  by_cases j0 : j = 0
  · rw [if_pos j0]
    obtain ⟨o, h2, ho, e2, q2, g2⟩ := q1.draw (by omega) (m := 600) (by omega) (by omega)
    have e2 : mL_draw 99 (600 : Int32) h1 = some (nI o, h2) := e2
    have k99 := q2.1.k99
    obtain ⟨h3, hh3⟩ : ∃ h3, h3 = setI h2 99 (updA (hpI h2 99) 4 (nI (1 + o))) := ⟨_, rfl⟩
    have g3 : GK [16] h2 h3 0 0 := by rw [hh3]; exact GK.setI (Or.inl rfl) (by rw [k99]; decide) _ (fun _ => by decide)
    have q3 : TQ h3 oa na ma ua su (n + 1 + 1) F nl := by
      refine ⟨by rw [hh3]; exact q2.1.dr _, ?_, q2.2.2.ex g3⟩
      rw [hh3]
      unfold LWi
      rw [setI_I, if_pos rfl, updA_ne _ _ (by omega), updA_ne _ _ (by omega), updA_ne _ _ (by omega)]
      exact q2.2.1
    have gg := GK.tr g2 g3
    have T3 := TT.gk T1 gg (by decide) q3
    have U3 := U1.gk gg (by decide)
    have A3 : ∃ q f, AL h3 na q f := by obtain ⟨q, f, A⟩ := A1; exact ⟨q, f, A.gk gg (by decide)⟩
    have l3 : hpI h3 99 4 = nI (1 + o) := by rw [hh3, setI_I, if_pos rfl, updA_same]
    obtain ⟨h4, e4, sb4, x4⟩ := nsb_ok q3.2.2 q3.1.1
    have b4 : BW h3 h4 (hpN h3) [] 2 20 oa na ma ua su (n + 1 + 1) F nl := ⟨Nat.le_refl _, sb4, x4.gk0 _, q3.np x4⟩
    obtain ⟨h5, e5, b5, g5⟩ := b4.appG (u := [108, 105, 109, 105, 116, 32]) st24 (by decide)
    have i5 : hpI h5 99 4 = nI (1 + o) := by
      have s4 := x4.sm (show 99 < hpN h3 by have := q3.1.1; omega) (fun z => z)
      have s5 := g5.s99 b4.2.2.2.1.1 (by decide)
      rw [s5.2.1, s4.2.1]; exact l3
    obtain ⟨h6, e6, b6⟩ := b5.num (v := 1 + o) (by omega) (by show 6 + 3 ≤ 600; omega)
    have dl := dig_le (1 + o)
    have htp : Tp (([] ++ [108, 105, 109, 105, 116, 32]) ++ dcm (1 + o)) [(265, wpk limitW), (3, 1 + o)] := by
      have h1 : Tp limitW [(265, wpk limitW)] := Tp.lit (by decide +kernel)
      exact (h1.appF (TpF.sp (c := 32) (Or.inl rfl)) (by decide) (by decide)).appT (Tp.nm (by omega))
    have hY : LY ([(265, wpk limitW), (3, 1 + o)] ++ [(59, 0)]) v (v.1, v.2.1, v.2.2.1, v.2.2.2.1, 1 + o, v.2.2.2.2.2) := fun σ X n m la s h1 h2 h3 h4 => LN.limit (v0 := wpk limitW) h1 h2 h4 (by omega) (by omega) v5
    obtain ⟨zt, ht, et, cs⟩ := T3.wr b6 (by rw [List.length_append]; show 6 + _ ≤ 600; omega) htp hY (by omega)
    have k99' := b5.2.2.2.1.k99
    rw [e2, b2s, show (1 : Int32) = nI 1 from rfl, nI_add, sI_ok k99, obind, ← hh3, e4, e5, b2s, gI_ok k99', obind, i5, e6, b2s, et, b2s]
    rcases cs with ⟨k1, k2, k3, k4⟩ | ⟨h9', n9, t9, R9, k2, k3, k3', k4, k5⟩
    · have A4 : ∃ q f, AL ht na q f := by obtain ⟨q, f, A⟩ := A3; exact ⟨q, f, A.gk k4 (by decide)⟩
      obtain ⟨h', e', td⟩ := l390_ok KT k3 (U3.gk k4 (by decide)) A4 cv0 F1 F8 (by omega) hcn
      exact ⟨h', by rw [k2, b2s, e']; rfl, td.up (by omega) (by omega) (by omega)⟩
    · have A4 : ∃ q f, AL h9' na q f := by obtain ⟨q, f, A⟩ := A3; exact ⟨q, f, A.gk k5 (by decide)⟩
      obtain ⟨h', e', td⟩ := l390_ok KT k4 (U3.gk k5 (by decide)) A4 (cv _) F1 F8 (by omega) hcn
      exact ⟨h', by rw [k2, b2s, e']; rfl, td.up (by omega) (by omega) (by omega)⟩
  · rw [if_neg j0]
    obtain ⟨h', e', td⟩ := l390_ok KT T1 U1 A1 cv0 F1 F8 (by omega) hcn
    exact ⟨h', e', td.up (by omega) (by omega) (by omega)⟩
def addT (Ts : Nat → Tr 2) (q : Nat) (Ty : Tr 2) : Nat → Tr 2 := fun i => if i = q then Ty else Ts i
theorem addT_q (Ts : Nat → Tr 2) (q : Nat) (Ty : Tr 2) : addT Ts q Ty q = Ty := if_pos rfl
theorem addT_ne {Ts : Nat → Tr 2} {q i : Nat} {Ty : Tr 2} (hi : i ≠ q) : addT Ts q Ty i = Ts i := if_neg hi
theorem canB_snoc (Ts : Nat → Tr 2) (Ty : Tr 2) (q w : Nat) : canB (addT Ts q Ty) (q + 1) w = (canB Ts q w && !hT 2 Ty w) := by
  show (allB (fun i => !hT 2 (addT Ts q Ty i) w) q && !hT 2 (addT Ts q Ty q) w) = _
  rw [addT_q]
  congr 1
  exact allB_congr fun i hi => by rw [addT_ne (by omega)]
theorem tp_never {j : Nat} {T : Tr 2} (ok : okT 8 2 T) : Tp ((([] ++ [110, 101, 118, 101, 114, 32]) ++ gapT j) ++ tA 2 T) ((257, wpk neverW) :: kA 2 T) := by
  have h1 : Tp neverW [(257, wpk neverW)] := Tp.lit (by decide +kernel)
  have h2 := (h1.appF (TpF.sp (c := 32) (Or.inl rfl)) (by decide) (by decide)).app (gap_tp j).1
  exact h2.appT (tp_tree ok)
theorem bA (B : Nat) : B + 17 + 1 + 256 + (2 + 1 + 0 + 1 + 314 + 1 + 2) ≤ B + 700 := by omega
theorem bB (B : Nat) : B + 51 + 10 + 1024 + (20 + 1202 + 0 + 1202 + 6120 + 1202 + 604) ≤ B + 30000 := by omega
theorem bC (B : Nat) : B + 17 + 1 + 256 + (2 + 1 + 0 + 1 + 314 + 1 + 5) ≤ B + 700 := by omega
theorem bD (B : Nat) : B + 51 + 10 + 1024 + (20 + 1202 + 0 + 1202 + 6120 + 1202 + 3604) ≤ B + 30000 := by omega
/-- nevers -/
theorem l231_ok (KT : KTX h00 tb oa na ma ua su F) (T : TT h00 h tb oa na ma ua su n F nl t R v c s) (hU : SUI h su ca na ua 0) (hV : NV h na F 0 f Ts) (hv : NI v F 0 Ts) (hnu : na ≠ ua) (hns : su ≠ na) (F1 : 1 ≤ F) (F8 : F ≤ 8) (hn : n + 5000 < 1000000000) (hcn : cnts ≤ 5) (hJ : J ≤ 2) :
    ∃ h', mL_told_l231 99 (nI cnts) tb (nI J) h = some (1, h') ∧ TD h00 h' oa na ma ua su (n + 1400) (c + 18000) (s + 1600000) := by
  have lA2 : lA 2 = 89 := rfl
  have c2' : cA 2 = 314 := rfl
  have s2' : sA 2 = 6120 := by decide
  unfold mL_told_l231
  obtain ⟨o, eo, h', rfl, td⟩ := lp_inv (f := fun s : (Int32 × Hp) => mL_told_l231f 99 (nI cnts) tb s.1 s.2) J
    (fun i st => ∃ h' n' v' nl' t' R' q f Ts, st = (nI (J - i), h') ∧ n' ≤ n + 26 * i ∧ TT h00 h' tb oa na ma ua su n' F nl' t' R' v' (c + 700 * i) (s + 30000 * i) ∧ SUI h' su ca na ua 0 ∧ NV h' na F q f Ts ∧ q ≤ i ∧ NI v' F q Ts)
    (fun o => ∃ h', o = (1, h') ∧ TD h00 h' oa na ma ua su (n + 1400) (c + 18000) (s + 1600000))
    (fun i st hi hQ => by
      obtain ⟨h0, n0, v0, nl0, t0, R0, q, f, Ts, rfl, hn0, T0, U0, V0, hq, I0⟩ := hQ
      obtain ⟨v1, v2, v3, v4, v5, v6, v7⟩ := id I0
      have q0 := T0.1
      obtain ⟨y, h1, n1, Ty, e1, sa1, ok1, w1, li1, hn1, C1, g1⟩ := l_said (e := 2) (by omega) q0.1 q0.2.1 q0.2.2 F1 F8 (by omega)
      have e1 : mL_said 40 99 (nI F) (2 : Int32) h0 = some (y, h1) := e1
      have sa1 := sa1.sa q0.1.1
      have q1 : TQ h1 oa na ma ua su n1 F nl0 := ⟨w1, li1, C1⟩
      have T1 := TT.gk T0 g1 (by decide) q1
      have U1 := U0.gk g1 (by decide)
      have V1 := V0.gk g1 (by decide)
      obtain ⟨h2, e2, A2, L2, B2⟩ := V1.1.add (v := y) w1 li1 C1 hnu (by omega) (Or.inr (show (hpS h1 y).1 = 14 from sa1.hd.2.2.1)) sa1.hd.2.1
      have q2 : TQ h2 oa na ma ua su n1 F nl0 := ⟨L2.W, L2.Li, L2.Cl⟩
      have T2 := TT.gk T1 L2.G (by decide) q2
      have U2 := SUI.lst U1 hns L2.G B2
      have sa2 := L2.G.sa sa1 (by decide) (by decide)
      have V2 : NV h2 na F (q + 1) (updA f q y) (addT Ts q Ty) := ⟨A2, fun i hi => by
        rw [updA_at]
        by_cases z : i = q
        · rw [if_pos z, z, addT_q]; exact ⟨sa2, ok1⟩
        · rw [if_neg z, addT_ne z]
          exact ⟨L2.G.sa (V1.2 i (by omega)).1 (by decide) (by decide), (V1.2 i (by omega)).2⟩⟩
      obtain ⟨h3, e3, G3⟩ := l_some q2.1 q2.2.1 q2.2.2 V2 F8
      have q3 := q2.np G3
      have gn3 := G3.gk0 [16]
      have T3 := TT.gk T2 gn3 (by decide) q3
      have U3 := U2.gk gn3 (by decide)
      have V3 := V2.gk gn3 (by decide)
      have i1 : J - i = J - (i + 1) + 1 := by omega
      have b332 : ∀ h, mL_told_b332 99 (nI cnts) tb (nI (J - i)) h = some (.inl (nI (J - (i + 1)), h)) := fun h => by
        unfold mL_told_b332
        rw [i1, nI_mn1 (by omega), Nat.add_sub_cancel]
      have m2 : c + 700 * i + 700 ≤ c + 700 * (i + 1) := by rw [Nat.mul_succ, Nat.add_assoc]; exact Nat.le_refl _
      have m3 : s + 30000 * i + 30000 ≤ s + 30000 * (i + 1) := by rw [Nat.mul_succ, Nat.add_assoc]; exact Nat.le_refl _
      -- it goes again
      have back : ∀ {h4 : Hp} {n4 nl4 : Nat} {t4 : List Nat} {R4 : List (Nat × Nat)} {c4 s4 : Nat}, n4 ≤ n0 + 26 → c4 ≤ c + 700 * i + 700 → s4 ≤ s + 30000 * i + 30000 → TT h00 h4 tb oa na ma ua su n4 F nl4 t4 R4 v0 c4 s4 → SUI h4 su ca na ua 0 → NV h4 na F (q + 1) (updA f q y) (addT Ts q Ty) →
          ∃ t, mL_told_b315 99 (nI cnts) tb (nI (J - i)) h4 = some (.inl t) ∧ ∃ h' n' v' nl' t' R' q f Ts, t = (nI (J - (i + 1)), h') ∧ n' ≤ n + 26 * (i + 1) ∧ TT h00 h' tb oa na ma ua su n' F nl' t' R' v' (c + 700 * (i + 1)) (s + 30000 * (i + 1)) ∧ SUI h' su ca na ua 0 ∧ NV h' na F q f Ts ∧ q ≤ i + 1 ∧ NI v' F q Ts := by
        intro h4 n4 nl4 t4 R4 c4 s4 hn4 hc4 hs4 T4 U4 V4
        obtain ⟨h5, e5, A5, L5, B5⟩ := V4.1.pop T4.1.1 T4.1.2.1 T4.1.2.2 hnu
        have q5 : TQ h5 oa na ma ua su n4 F nl4 := ⟨L5.W, L5.Li, L5.Cl⟩
        have k99 := T4.1.1.k99
        have r7 : hpR h4 99 7 = na := T4.1.1.2.1.2.2.2.2.1
        refine ⟨_, ?_, h5, n4, v0, nl4, t4, R4, q, updA f q y, Ts, rfl, by omega, (TT.gk T4 L5.G (by decide) q5).up (Nat.le_trans hc4 m2) (Nat.le_trans hs4 m3), SUI.lst U4 hns L5.G (fun b _ => B5 b), ⟨A5, fun i hi => ?_⟩, by omega, I0⟩
        · unfold mL_told_b315
          rw [gR_ok k99, obind, r7, obind, V4.1.size, obind, nI_prd, e5, b2s, b332]
        · have := V4.2 i (by omega)
          rw [addT_ne (by omega)] at this
          exact ⟨L5.G.sa this.1 (by decide) (by decide), this.2⟩
      have pre : ∀ {o}, (if bI (anyB (canB (addT Ts q Ty) (q + 1)) (2 ^ F)) = 0 then (mL_told_b315 99 (nI cnts) tb (nI (J - i)) h3) else (b2 (newO 16 4 h3) fun v241 h240 => (mJ4_init_da8c8 v241 h240).bind fun h243 => b2 (mJ4_append_15ec4 v241 16 h243) fun v244 h245 => b2 (mL_gap 99 h245) fun v246 h247 => b2 (mJ4_append_15ec4 v244 v246 h247) fun v248 h249 => (gR 15 7 99 h249).bind fun v250 => (gR 15 7 99 h249).bind fun v251 => (mJx4a65c_size_8abf5 v251 h249).bind fun v252 => (mJx4a65c_get_915e3 v250 (v252 - (1 : Int32)) h249).bind fun v254 => if v254 = 0 ∨ (hpS h249 v254).1 = 14 then b2 (mX13_all 40 v254 h249) fun v256 h257 => b2 (mJ4_append_15ec4 v248 v256 h257) fun v258 h259 => b2 (mJ4_toString_0e30d v258 h259) fun v260 h261 => b2 (mL_fits 99 tb v260 h261) fun v262 h263 => if v262 = 0 then (mL_told_b315 99 (nI cnts) tb (nI (J - i)) h263) else (mL_told_b332 99 (nI cnts) tb (nI (J - i)) h263) else none)) = o → mL_told_l231f 99 (nI cnts) tb (nI (J - i)) h0 = o := fun {o} e => by
        have k99 := q0.1.k99
        unfold mL_told_l231f
        rw [if_pos (show (0 : Int32) < nI (J - i) from nI_lt (a := 0) (by omega) (by omega)), gR_ok k99, obind, q0.1.2.1.2.2.2.2.1, gI_ok k99, obind, q0.2.1.2.1, e1, b2s, e2, b2s, e3, b2s]
        exact e
      cases hb : anyB (canB (addT Ts q Ty) (q + 1)) (2 ^ F)
      · obtain ⟨t', e', r'⟩ := back (by omega) (by omega) (by omega) T3 U3 V3
        refine ⟨t', pre ?_, r'⟩
        rw [hb, if_pos (by rfl)]; exact e'
      · obtain ⟨h4, e4, b4⟩ := BW.new q3
        obtain ⟨h5, e5, b5⟩ := b4.app (u := [110, 101, 118, 101, 114, 32]) st16 (by decide)
        obtain ⟨z6, h6, j, n6, e6, st6, hn6, w6, li6, C6, g6⟩ := gap_ok b5.2.2.2.1 b5.2.2.2.2.1 b5.2.2.2.2.2 (by omega)
        have q6 : TQ h6 oa na ma ua su n6 F nl0 := ⟨w6, li6, C6⟩
        have b6 := b5.dr g6 q6
        have gl := (gap_tp j).2
        obtain ⟨h7, e7, b7⟩ := b6.app (st6 h6) (by show 6 + _ ≤ 600; omega)
        have V7 := V3.gk b7.2.2.1 (by decide)
        have sa7 := b7.2.2.1.sa (gn3.sa sa2 (by decide) (by decide)) (by decide) (by decide)
        have ok8 := ok1.mono F8
        have tl := tA_len ok1
        obtain ⟨z8, h8, e8, st8, x8⟩ := l_all (Nat.le_refl 2) b7.2.2.2.2.2 b7.2.2.2.1.1 sa7 ok8
        have x8 := x8.up (fun _ _ z => z) (Nat.le_of_eq c2') (Nat.le_of_eq s2')
        have b8 := b7.np x8
        have l7 : (([] ++ [110, 101, 118, 101, 114, 32]) ++ gapT j).length ≤ 7 := by rw [List.length_append]; show 6 + _ ≤ 7; omega
        obtain ⟨h9, e9, b9⟩ := b8.app st8 (by omega)
        obtain ⟨wt, hwt, hwc⟩ := anyB_iff.mp hb
        rw [canB_snoc, Bool.and_eq_true] at hwc
        have hY : LY (((257, wpk neverW) :: kA 2 Ty) ++ [(59, 0)]) v0 (v0.1, v0.2.1, v0.2.2.1 + 1, v0.2.2.2.1, v0.2.2.2.2.1, v0.2.2.2.2.2.1, v0.2.2.2.2.2.2.1, fun w => v0.2.2.2.2.2.2.2 w && !hT 2 Ty w) := fun σ X n m la s h1 h2 h3 h4 => LN.never (v0 := wpk neverW) h1 h2 h4 (Nat.le_refl 2) (by rw [v1]; exact ok1) (by omega) ⟨wt, by rw [v1]; exact hwt, by rw [v7]; exact hwc.1, by have := hwc.2; simpa using this⟩
        obtain ⟨zt, ht, et, cs⟩ := T3.wr b9 (by rw [List.length_append]; omega) (tp_never ok8) hY (by omega)
        have k997 := b7.2.2.2.1.k99
        have r7 : hpR h7 99 7 = na := b7.2.2.2.1.2.1.2.2.2.2.1
        have k14 : (hpS h7 y).1 = 14 := sa7.hd.2.2.1
        have go : ∀ {o}, (b2 (mL_fits 99 tb zt ht) fun v262 h263 => if v262 = 0 then (mL_told_b315 99 (nI cnts) tb (nI (J - i)) h263) else (mL_told_b332 99 (nI cnts) tb (nI (J - i)) h263)) = o → mL_told_l231f 99 (nI cnts) tb (nI (J - i)) h0 = o := fun {o} e => pre (by
          rw [hb, if_neg (by decide), e4, e5, b2s, e6, b2s, e7, b2s, gR_ok k997, obind, r7, obind, V7.1.size, obind, nI_prd, V7.1.get (by omega), obind, updA_same, if_pos (Or.inr k14), e8, b2s, e9, b2s, et, b2s]
          exact e)
        rcases cs with ⟨k1, k2, k3, k4⟩ | ⟨h9', n9, t9, R9, k2, k3, k3', k4, k5⟩
        · obtain ⟨t', e', r'⟩ := back (by omega) (bA _) (bB _) k3 (U3.gk k4 (by decide)) (V3.gk k4 (by decide))
          refine ⟨t', go ?_, r'⟩
          rw [k2, b2s, if_pos rfl]; exact e'
        · refine ⟨(nI (J - (i + 1)), h9'), go ?_, h9', n9, _, _, t9, R9, q + 1, _, _, rfl, by omega, k4.up (Nat.le_trans (bC _) m2) (Nat.le_trans (bD _) m3), U3.gk k5 (by decide), V3.gk k5 (by decide), by omega, v1, v2, by show v0.2.2.1 + 1 = q + 1; omega, v4, v5, v6, fun w => ?_⟩
          · rw [k2, b2s, if_neg (show ¬ (1 : Int32) = 0 by decide), b332]
          · show (v0.2.2.2.2.2.2.2 w && !hT 2 Ty w) = _
            rw [canB_snoc, v7])
    (fun st hQ => by
      obtain ⟨h0, n0, v0, nl0, t0, R0, q, f, Ts, rfl, hn0, T0, U0, V0, hq, I0⟩ := hQ
      obtain ⟨h', e', td⟩ := lim_ok KT T0 U0 ⟨_, _, V0.1⟩ I0 F1 F8 (by omega) hcn
      refine ⟨(1, h'), ?_, h', rfl, td.up (by omega) (by omega) (by omega)⟩
      show mL_told_l231f 99 (nI cnts) tb (nI (J - J)) h0 = _
      unfold mL_told_l231f
      rw [Nat.sub_self, if_neg (show ¬ (0 : Int32) < nI 0 by decide), e', xts])
    (s := (nI J, h)) ⟨h, n, v, nl, t, R, 0, f, Ts, rfl, by omega, T.up (by omega) (by omega), hU, hV, Nat.le_refl _, hv⟩
  exact ⟨h', eo, td⟩
end JC
