/-! TOLD: facts; the whole -/
def factW : List Nat := [102, 97, 99, 116]
def vFc (f : Nat) : Vt := (f, v00.2)
section JD
variable {h h' h0 h00 h1 h2 h3 : Hp} {P P' : Nat → Prop} {c c' s s' z a b n n' x y m F q oa na ma ua su ca nl lo d w e tb k S cn c0 s0 cnts J C s2 o most : Nat} {t u t1 : List Nat} {l l' : List Nat} {f g : Nat → Nat} {R Rk Rb : List (Nat × Nat)} {v v' : Vt} {Ts : Nat → Tr 2}
theorem tp_fact5 {i : Nat} (hi : i < 8) : Tp ((([] ++ [102, 97, 99, 116, 32]) ++ [97 + i]) ++ []) ((256, wpk factW) :: (2, i + 1) :: []) := by
  have h1 : Tp factW [(256, wpk factW)] := Tp.lit (by decide +kernel)
  rw [List.append_nil]
  exact (h1.appF (TpF.sp (c := 32) (Or.inl rfl)) (by decide) (by decide)).appT (Tp.fact hi)
theorem tp_facto {i o : Nat} (hi : i < 8) (ho : o < 1000) : Tp ((([] ++ [102, 97, 99, 116, 32]) ++ [97 + i]) ++ (([] ++ [32]) ++ dcm o)) ((256, wpk factW) :: (2, i + 1) :: [(3, o)]) := by
  have h1 : Tp factW [(256, wpk factW)] := Tp.lit (by decide +kernel)
  have h2 := (h1.appF (TpF.sp (c := 32) (Or.inl rfl)) (by decide) (by decide)).appT (Tp.fact hi)
  have h3 := (h2.appF (TpF.sp (c := 32) (Or.inl rfl)) (by decide) (by decide)).appT (Tp.nm ho)
  have e : (([] ++ [102, 97, 99, 116, 32]) ++ [97 + i]) ++ (([] ++ [32]) ++ dcm o) = ((([] ++ [102, 97, 99, 116, 32]) ++ [97 + i]) ++ [32]) ++ dcm o := by rw [List.append_assoc _ _ (dcm o)]; rfl
  rw [e]
  exact h3
/-- one fact -/
theorem fact1 {i : Nat} (T : TT h00 h tb oa na ma ua su n F nl t R (vFc i) c s) (hU : SUI h su ca na ua 0) (hV : NV h na F 0 f Ts) (hi : i < 8) (ho1 : 1 ≤ o) (ho9 : o ≤ 9) (ht : t.length ≤ 1 + 10 * i) (hn : n + 100 < 1000000000) (x2 : Int32) :
    ∃ h' n' nl' t' R', mL_told_b144 99 x2 tb (nI i) oa (nI i) (nI o) h = some (.inl (nI (i + 1), h')) ∧ n' ≤ n + 2 ∧ TT h00 h' tb oa na ma ua su n' F nl' t' R' (vFc (i + 1)) (c + 60) (s + 30000) ∧ SUI h' su ca na ua 0 ∧ NV h' na F 0 f Ts ∧ t'.length ≤ 1 + 10 * (i + 1) := by
  have q := T.1
  obtain ⟨o1, o2, o3⟩ := q.1.2.2.2.1
  obtain ⟨hS, hhS⟩ : ∃ hS, hS = setI h oa (updA (hpI h oa) i (nI o)) := ⟨_, rfl⟩
  have gS : GK [50] h hS 0 0 := by rw [hhS]; exact GK.setI (Or.inr o1) (by rw [o3]; decide) _ (fun z => by omega)
  have qS : TQ hS oa na ma ua su n F nl := by
    refine ⟨?_, ?_, q.2.2.ex gS⟩
    · rw [hhS]; exact q.1.sI (ua_n q.1 (by rw [o3]; show 50 ≠ 19; omega)) _
    · rw [hhS]; exact q.2.1.sI (by omega) _
  have TS := TT.gk T gS (by decide) qS
  have US := hU.gk gS (by decide)
  have VS := hV.gk gS (by decide)
  have iS : hpI hS oa i = nI o := by rw [hhS, setI_I, if_pos rfl, updA_same]
  have sS : hpS hS oa = (50, 8) := by rw [hhS]; exact o3
  have nS : hpN hS = hpN h := by rw [hhS]; rfl
  obtain ⟨h1, e1, b1⟩ := BW.new qS
  obtain ⟨h2, e2, b2'⟩ := b1.app (u := [102, 97, 99, 116, 32]) st15 (by decide)
  obtain ⟨z3, h3, e3, st3, x3⟩ := w_fact b2'.2.2.2 (f := i) hi
  have b3 := b2'.np x3
  obtain ⟨h4, e4, b4⟩ := b3.app st3 (by show 5 + 1 ≤ 600; omega)
  have q4 := b4.2.2.2
  have k99 := q4.1.k99
  have r6 : hpR h4 99 6 = oa := q4.1.2.1.2.2.2.1
  have sm4 := b4.2.2.1.sm' (a := oa) (by omega) (by omega) (by rw [sS]; show 50 ∉ [16]; decide)
  have i4 : hpI h4 oa i = nI o := by rw [sm4.2.1]; exact iS
  have s4 : hpS h4 oa = (50, 8) := by rw [sm4.1]; exact sS
  have dl : (dcm o).length = 1 := by rw [dig_len, if_pos (by omega)]
  have ld : (([] ++ [32]) ++ dcm o).length = 2 := by rw [List.length_append, dl]; rfl
  have n4 : oa < hpN h4 := by have := b4.2.2.1.le; omega
  have fin : ∀ {h5 : Hp} {zs : Nat} {od : List Nat} {OD : List (Nat × Nat)} {c5 s5 : Nat}, BW hS h5 (hpN hS) (([] ++ [102, 97, 99, 116, 32]) ++ [97 + i]) c5 s5 oa na ma ua su n F nl → c5 ≤ 30 → s5 ≤ 20000 → ST h5 zs od → od.length ≤ 2 → ((OD = [] ∧ o = 5) ∨ (OD = [(3, o)] ∧ 1 ≤ o ∧ o ≤ 9)) → Tp ((([] ++ [102, 97, 99, 116, 32]) ++ [97 + i]) ++ od) ((256, wpk factW) :: (2, i + 1) :: OD) →
      mL_told_b144 99 x2 tb (nI i) oa (nI i) (nI o) h = mL_told_b208 99 x2 tb (nI i) 99 tb (hpN hS) zs h5 →
      ∃ h' n' nl' t' R', mL_told_b144 99 x2 tb (nI i) oa (nI i) (nI o) h = some (.inl (nI (i + 1), h')) ∧ n' ≤ n + 2 ∧ TT h00 h' tb oa na ma ua su n' F nl' t' R' (vFc (i + 1)) (c + 60) (s + 30000) ∧ SUI h' su ca na ua 0 ∧ NV h' na F 0 f Ts ∧ t'.length ≤ 1 + 10 * (i + 1) := by
    intro h5 zs od OD c5 s5 b5 hc5 hs5 hst hod hOD htp go
    have hc6 : c5 + 1 + 5 ≤ 60 := by omega
    have hs6 : s5 + 1202 + 3604 ≤ 30000 := by omega
    obtain ⟨h6, e6, b6⟩ := b5.app hst (by show 6 + od.length ≤ 600; omega)
    have lu : ((([] ++ [102, 97, 99, 116, 32]) ++ [97 + i]) ++ od).length ≤ 8 := by rw [List.length_append]; show 6 + _ ≤ 8; omega
    have hY : LY (((256, wpk factW) :: (2, i + 1) :: OD) ++ [(59, 0)]) (vFc i) (vFc (i + 1)) := fun σ X n m la s h1 h2 h3 h4 => LN.fact (v0 := wpk factW) (v := vFc i) h1 h2 h4 hOD hi
    obtain ⟨zt, hT, et, cs⟩ := TS.wr b6 (by omega) htp hY (by omega)
    rcases cs with ⟨k1, k2, k3, k4⟩ | ⟨h9, n9, t9, R9, k2, k3, k3', k4, k5⟩
    · omega
    · refine ⟨h9, n9, nl + 1, t9, R9, ?_, k3, k4.up (Nat.add_le_add_left hc6 (c + 0)) (Nat.add_le_add_left hs6 (s + 0)), US.gk k5 (by decide), VS.gk k5 (by decide), by omega⟩
      rw [go]
      unfold mL_told_b208
      rw [e6, b2s, et, b2s, k2, b2s, nI_1]
  have pre : ∀ {r}, (if nI o = (5 : Int32) then (mL_told_b208 99 x2 tb (nI i) 99 tb (hpN hS) 14 h4) else (b2 (newO 16 4 h4) fun v283 h282 => (mJ4_init_da8c8 v283 h282).bind fun h285 => b2 (mJ4_append_15ec4 v283 12 h285) fun v286 h287 => (gR 15 6 99 h287).bind fun v288 => (ldI v288 (nI i) h287).bind fun v289 => b2 (mJ4_append_bf812 v286 v289 h287) fun v290 h291 => b2 (mJ4_toString_0e30d v290 h291) fun v292 h293 => mL_told_b208 99 x2 tb (nI i) 99 tb (hpN hS) v292 h293)) = r → mL_told_b144 99 x2 tb (nI i) oa (nI i) (nI o) h = r := fun {r} e => by
    unfold mL_told_b144
    rw [stI_ok (n := 8) o3 hi (by omega), obind, ← hhS, e1, e2, b2s, e3, b2s, e4, b2s, gR_ok k99, obind, r6, ldI_ok (n := 8) s4 hi (by omega), obind, i4]
    exact e
  by_cases q5 : o = 5
  · exact fin b4 (by omega) (by omega) st14 (by decide) (Or.inl ⟨rfl, q5⟩) (tp_fact5 hi) (pre (by rw [if_pos (show nI o = (5 : Int32) by rw [q5]; rfl)]))
  · obtain ⟨h5, e5, b5⟩ := BL.new q4.2.2 q4.1.1
    obtain ⟨h6, e6, b6, _⟩ := b5.app (u := [32]) st12 (by decide)
    have G6 := b6.2.2.2
    have q6 := q4.np G6
    have sm6 := G6.sm n4 (fun z => z)
    have i6 : hpI h6 oa i = nI o := by rw [sm6.2.1]; exact i4
    have s6 : hpS h6 oa = (50, 8) := by rw [sm6.1]; exact s4
    obtain ⟨h7, e7, b7, _⟩ := b6.num (v := o) (by omega) (by show 1 + 3 ≤ 3000; omega)
    obtain ⟨z8, h8, e8, st8, x8, _⟩ := b7.tos (by rw [List.length_append]; show 1 + _ ≤ 3000; omega)
    have b8 := b4.np x8
    refine fin b8 (by omega) (by show 20 + 1202 + 3028 + 1202 + (20 + (2 * (0 + 1) + 2) + (2 * (0 + 1 + 3) + 2) + (4 + (([] ++ [32]) ++ dcm o).length)) ≤ 20000; rw [ld]; decide) st8 (by rw [List.length_append]; show 1 + _ ≤ 2; omega) (Or.inr ⟨rfl, ho1, ho9⟩) (tp_facto hi (by omega)) (pre ?_)
    have k996 := q6.1.k99
    have r66 : hpR h6 99 6 = oa := q6.1.2.1.2.2.2.1
    rw [show (5 : Int32) = nI 5 from rfl, c_eqd (by omega) (by omega), if_neg q5, e5, e6, b2s, gR_ok k996, obind, r66, ldI_ok (n := 8) s6 hi (by omega), obind, i6, e7, b2s, e8, b2s]
theorem l109_ok (KT : KTX h00 tb oa na ma ua su F) (T : TT h00 h tb oa na ma ua su n F nl t R (vFc 0) c s) (hU : SUI h su ca na ua 0) (hV : NV h na F 0 f Ts) (hnu : na ≠ ua) (hns : su ≠ na) (F1 : 1 ≤ F) (F8 : F ≤ 8) (hn : n + 6000 < 1000000000) (hcn : cnts ≤ 5) (ht : t.length ≤ 1) :
    ∃ h', mL_told_l109 99 (nI cnts) tb (0 : Int32) h = some (1, h') ∧ TD h00 h' oa na ma ua su (n + 1450) (c + 18500) (s + 1850000) := by
  unfold mL_told_l109
  obtain ⟨r, eo, h', rfl, td⟩ := lp_inv (f := fun s : (Int32 × Hp) => mL_told_l109f 99 (nI cnts) tb s.1 s.2) F
    (fun i st => ∃ h' n' nl' t' R', st = (nI i, h') ∧ n' ≤ n + 5 * i ∧ TT h00 h' tb oa na ma ua su n' F nl' t' R' (vFc i) (c + 60 * i) (s + 30000 * i) ∧ SUI h' su ca na ua 0 ∧ NV h' na F 0 f Ts ∧ t'.length ≤ 1 + 10 * i)
    (fun r => ∃ h', r = (1, h') ∧ TD h00 h' oa na ma ua su (n + 1450) (c + 18500) (s + 1850000))
    (fun i st hi hQ => by
      obtain ⟨h0, n0, nl0, t0, R0, rfl, hn0, T0, U0, V0, ht0⟩ := hQ
      have k99 := T0.1.1.k99
      have r6 : hpR h0 99 6 = oa := T0.1.1.2.1.2.2.2.1
      have m2 : c + 60 * i + 60 ≤ c + 60 * (i + 1) := by rw [Nat.mul_succ, Nat.add_assoc]; exact Nat.le_refl _
      have m3 : s + 30000 * i + 30000 ≤ s + 30000 * (i + 1) := by rw [Nat.mul_succ, Nat.add_assoc]; exact Nat.le_refl _
      obtain ⟨j, h1, hj, e1, q1, g1⟩ := T0.1.draw (by omega) (m := 3) (by omega) (by omega)
      have e1 : mL_draw 99 (3 : Int32) h0 = some (nI j, h1) := e1
      have T1 := TT.gk T0 g1 (by decide) q1
      have U1 := U0.gk g1 (by decide)
      have V1 := V0.gk g1 (by decide)
      by_cases j0 : j = 0
      · obtain ⟨h4, n4, nl4, t4, R4, e4, hn4, T4, U4, V4, ht4⟩ := fact1 (o := 5) T1 U1 V1 (by omega) (by omega) (by omega) ht0 (by omega) (nI cnts)
        have e4 : mL_told_b144 99 (nI cnts) tb (nI i) oa (nI i) (5 : Int32) h1 = some (.inl (nI (i + 1), h4)) := e4
        refine ⟨(nI (i + 1), h4), ?_, h4, n4, nl4, t4, R4, rfl, by omega, T4.up m2 m3, U4, V4, ht4⟩
        show mL_told_l109f 99 (nI cnts) tb (nI i) h0 = _
        unfold mL_told_l109f
        rw [gI_ok k99, obind, T0.1.2.1.2.1, c_lt hi (by omega), gR_ok k99, obind, r6, e1, b2s, c_0 (by omega), if_pos j0, e4]
      · obtain ⟨o, h2, ho, e2, q2, g2⟩ := q1.draw (by omega) (m := 9) (by omega) (by omega)
        have e2 : mL_draw 99 (9 : Int32) h1 = some (nI o, h2) := e2
        have T2 := TT.gk T1 g2 (by decide) q2
        obtain ⟨h4, n4, nl4, t4, R4, e4, hn4, T4, U4, V4, ht4⟩ := fact1 (o := 1 + o) T2 (U1.gk g2 (by decide)) (V1.gk g2 (by decide)) (by omega) (by omega) (by omega) ht0 (by omega) (nI cnts)
        refine ⟨(nI (i + 1), h4), ?_, h4, n4, nl4, t4, R4, rfl, by omega, T4.up m2 m3, U4, V4, ht4⟩
        show mL_told_l109f 99 (nI cnts) tb (nI i) h0 = _
        unfold mL_told_l109f
        rw [gI_ok k99, obind, T0.1.2.1.2.1, c_lt hi (by omega), gR_ok k99, obind, r6, e1, b2s, c_0 (by omega), if_neg j0, e2, b2s, show (1 : Int32) = nI 1 from rfl, nI_add, e4])
    (fun st hQ => by
      obtain ⟨h0, n0, nl0, t0, R0, rfl, hn0, T0, U0, V0, ht0⟩ := hQ
      have k99 := T0.1.1.k99
      obtain ⟨j, h1, hj, e1, q1, g1⟩ := T0.1.draw (by omega) (m := 3) (by omega) (by omega)
      have e1 : mL_draw 99 (3 : Int32) h0 = some (nI j, h1) := e1
      have T1 := TT.gk T0 g1 (by decide) q1
      obtain ⟨h', e', td⟩ := l231_ok KT T1 (U0.gk g1 (by decide)) (V0.gk g1 (by decide)) ⟨rfl, rfl, rfl, rfl, rfl, fun x => ⟨rfl, rfl⟩, fun w => rfl⟩ hnu hns F1 F8 (by omega) hcn (J := j) (by omega)
      refine ⟨(1, h'), ?_, h', rfl, td.up (by omega) (by omega) (by omega)⟩
      show mL_told_l109f 99 (nI cnts) tb (nI F) h0 = _
      unfold mL_told_l109f
      rw [gI_ok k99, obind, T0.1.2.1.2.1, c_nlt (Nat.le_refl _) (by omega), e1, b2s, e', xts])
    (s := ((0 : Int32), h)) ⟨h, n, nl, t, R, rfl, by omega, T.up (by omega) (by omega), hU, hV, by omega⟩
  exact ⟨h', eo, td⟩
/-- no sames -/
theorem l77_ok {i : Nat} (q : TQ h oa na ma ua su n F nl) (hi : i < 5) (x2 : Int32) : ∃ h', mL_told_l77 99 x2 tb (nI i) (0 : Int32) h = some (.inl (nI (i + 1), h')) ∧ TQ h' oa na ma ua su n F nl ∧ GK [52] h h' 0 0 := by
  unfold mL_told_l77
  obtain ⟨r, eo, h', rfl, td⟩ := lp_inv (f := fun s : (Int32 × Hp) => mL_told_l77f 99 x2 tb (nI i) s.1 s.2) 5
    (fun j st => ∃ h', st = (nI j, h') ∧ TQ h' oa na ma ua su n F nl ∧ GK [52] h h' 0 0)
    (fun r => ∃ h', r = .inl (nI (i + 1), h') ∧ TQ h' oa na ma ua su n F nl ∧ GK [52] h h' 0 0)
    (fun j st hj hQ => by
      obtain ⟨h1, rfl, q1, g1⟩ := hQ
      obtain ⟨m1, m2, m3, m4⟩ := q1.1.2.2.2.2.1
      obtain ⟨a1, a2, a3⟩ := m4 i hi
      have k99 := q1.1.k99
      have r8 : hpR h1 99 8 = ma := q1.1.2.1.2.2.2.2.2.1
      have g2 : GK [52] h1 (setI h1 (hpR h1 ma i) (updA (hpI h1 (hpR h1 ma i)) j 0)) 0 0 := GK.setI (Or.inr a1) (by rw [a3]; decide) _ (fun z => by omega)
      refine ⟨(nI (j + 1), _), ?_, _, rfl, ⟨q1.1.sI (ua_n q1.1 (by rw [a3]; show 52 ≠ 19; omega)) _, q1.2.1.sI (by omega) _, q1.2.2.ex g2⟩, GK.tr g1 g2⟩
      show mL_told_l77f 99 x2 tb (nI i) (nI j) h1 = _
      unfold mL_told_l77f
      rw [if_pos (show nI j < (5 : Int32) from nI_lt (b := 5) hj (by omega)), gR_ok k99, obind, r8, ldR_ok (n := 5) m3 hi (by omega), obind, stZ_ok (n := 5) a3 hj (by omega) (Or.inl rfl), obind, nI_1])
    (fun st hQ => by
      obtain ⟨h1, rfl, q1, g1⟩ := hQ
      refine ⟨.inl (nI (i + 1), h1), ?_, h1, rfl, q1, g1⟩
      show mL_told_l77f 99 x2 tb (nI i) (nI 5) h1 = _
      unfold mL_told_l77f
      rw [if_neg (show ¬ nI 5 < (5 : Int32) by decide), nI_1, xts])
    (s := ((0 : Int32), h)) ⟨h, rfl, q, Gw.rf _ _⟩
  exact ⟨h', eo, td⟩
theorem l68_ok (q : TQ h oa na ma ua su n F nl) (x2 : Int32) (P : (Int32 × Hp) → Prop) (hP : ∀ h', TQ h' oa na ma ua su n F nl → GK [52] h h' 0 0 → ∃ o, mL_told_l109 99 x2 tb (0 : Int32) h' = some o ∧ P o) : ∃ o, mL_told_l68 99 x2 tb (0 : Int32) h = some o ∧ P o := by
  unfold mL_told_l68
  exact lp_inv (f := fun s : (Int32 × Hp) => mL_told_l68f 99 x2 tb s.1 s.2) 5
    (fun j st => ∃ h', st = (nI j, h') ∧ TQ h' oa na ma ua su n F nl ∧ GK [52] h h' 0 0) P
    (fun j st hj hQ => by
      obtain ⟨h1, rfl, q1, g1⟩ := hQ
      obtain ⟨h2, e2, q2, g2⟩ := l77_ok q1 hj x2 (tb := tb)
      refine ⟨(nI (j + 1), h2), ?_, h2, rfl, q2, GK.tr g1 g2⟩
      show mL_told_l68f 99 x2 tb (nI j) h1 = _
      unfold mL_told_l68f
      rw [if_pos (show nI j < (5 : Int32) from nI_lt (b := 5) hj (by omega)), e2])
    (fun st hQ => by
      obtain ⟨h1, rfl, q1, g1⟩ := hQ
      obtain ⟨o, eo, ho⟩ := hP h1 q1 g1
      refine ⟨o, ?_, ho⟩
      show mL_told_l68f 99 x2 tb (nI 5) h1 = _
      unfold mL_told_l68f
      rw [if_neg (show ¬ nI 5 < (5 : Int32) by decide), eo, xts])
    (s := ((0 : Int32), h)) ⟨h, rfl, q, Gw.rf _ _⟩
end JD
