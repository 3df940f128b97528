/-! TOLD: the lines behind a count's own -/
section J8
variable {h h' h0 h00 h1 h2 h3 : Hp} {P P' : Nat → Prop} {c c' s s' z a b n n' x y m F q oa na ma ua su ca nl lo d w e tb k S cn c1 s1 cnts J : Nat} {t u : List Nat} {l l' : List Nat} {f g : Nat → Nat} {R Rk : List (Nat × Nat)} {v v' : Vt}
theorem TT.up {C s2 : Nat} (T : TT h00 h tb oa na ma ua su n F nl t R v c s) (hc : c ≤ C) (hs : s ≤ s2) : TT h00 h tb oa na ma ua su n F nl t R v C s2 := ⟨T.1, T.2.1, T.2.2.1, T.2.2.2.1, T.2.2.2.2.1, T.2.2.2.2.2.up (fun _ _ z => z) hc hs⟩
/-- which are the same, perhaps -/
theorem same_ok (T : TT h00 h tb oa na ma ua su n F nl t R v c s) (hU : SUI h su ca na ua (k + 1)) (hA : ∃ q f, AL h na q f) (hv : CVs v F k S) (hk : k < 5) (hn : n + 10 < 1000000000) (x2 : Int32) :
    ∃ h' n' v' nl' t' R', (if 0 < nI k then (b2 (mL_draw 99 (2 : Int32) h) fun v104 h105 => if v104 = 0 then (b2 (mL_draw 99 (nI k) h105) fun v106 h107 => b2 (newO 16 4 h107) fun v109 h108 => (mJ4_init_da8c8 v109 h108).bind fun h111 => b2 (mJ4_append_15ec4 v109 33 h111) fun v112 h113 => b2 (mL_count (nI k) h113) fun v114 h115 => b2 (mJ4_append_15ec4 v112 v114 h115) fun v116 h117 => b2 (mJ4_append_15ec4 v116 12 h117) fun v118 h119 => b2 (mL_count v106 h119) fun v120 h121 => b2 (mJ4_append_15ec4 v118 v120 h121) fun v122 h123 => b2 (mJ4_toString_0e30d v122 h123) fun v124 h125 => b2 (mL_fits 99 tb v124 h125) fun v126 h127 => if v126 = 0 then (mL_told_b941 99 x2 tb (nI k) h127) else ((gR 15 8 99 h127).bind fun v128 => (ldR 19 v128 (nI k) h127).bind fun v129 => (stZ v129 v106 (1 : Int32) h127).bind fun h130 => (gR 15 8 99 h130).bind fun v131 => (ldR 19 v131 v106 h130).bind fun v132 => (stZ v132 (nI k) (1 : Int32) h130).bind fun h133 => mL_told_b941 99 x2 tb (nI k) h133)) else (mL_told_b941 99 x2 tb (nI k) h105)) else (mL_told_b941 99 x2 tb (nI k) h)) = some (.inl (nI (k + 1), h')) ∧ n' ≤ n + 4 ∧ TT h00 h' tb oa na ma ua su n' F nl' t' R' v' (c + 60) (s + 30000) ∧ SUI h' su ca na ua (k + 1) ∧ (∃ q f, AL h' na q f) ∧ CV v' F (k + 1) := by
  obtain ⟨v1, v2, v3, v4, v5, v6, v7⟩ := id hv
  have cv : CV v F (k + 1) := ⟨v1, v2, v3, v4⟩
  have b941 : ∀ h, mL_told_b941 99 x2 tb (nI k) h = some (.inl (nI (k + 1), h)) := fun h => by
    unfold mL_told_b941
    rw [nI_1]
  by_cases k0 : 0 < k
  · rw [if_pos (show (0 : Int32) < nI k from nI_lt (a := 0) k0 (by omega))]
    obtain ⟨j, h1, hj, e1, q1, g1⟩ := T.1.draw (by omega) (m := 2) (by omega) (by omega)
    have e1 : mL_draw 99 (2 : Int32) h = some (nI j, h1) := e1
    have T1 := TT.gk T g1 (by decide) q1
    have U1 := hU.gk g1 (by decide)
    have A1 : ∃ q f, AL h1 na q f := by obtain ⟨q, f, A⟩ := hA; exact ⟨q, f, A.gk g1 (by decide)⟩
    rw [e1, b2s, c_0 (by omega)]
    by_cases j0 : j = 0
    · rw [if_pos j0]
      obtain ⟨o, h2, ho, e2, q2, g2⟩ := q1.draw (by omega) (m := k) k0 (by omega)
      have T2 := TT.gk T1 g2 (by decide) q2
      have U2 := U1.gk g2 (by decide)
      have A2 : ∃ q f, AL h2 na q f := by obtain ⟨q, f, A⟩ := A1; exact ⟨q, f, A.gk g2 (by decide)⟩
      obtain ⟨h3, e3, b3⟩ := BW.new q2
      obtain ⟨h4, e4, b4⟩ := b3.app (u := [115, 97, 109, 101, 32]) st33 (by decide)
      obtain ⟨z5, h5, e5, st5, x5⟩ := w_count b4.2.2.2 (k := k) (by omega)
      have b5 := b4.np x5
      obtain ⟨h6, e6, b6⟩ := b5.app st5 (by show 5 + 2 ≤ 600; omega)
      obtain ⟨h7, e7, b7⟩ := b6.app (u := [32]) st12 (by show 7 + 1 ≤ 600; omega)
      obtain ⟨z8, h8, e8, st8, x8⟩ := w_count b7.2.2.2 (k := o) (by omega)
      have b8 := b7.np x8
      obtain ⟨h9, e9, b9⟩ := b8.app st8 (by show 8 + 2 ≤ 600; omega)
      have hY : LY ([(264, wpk sameW), (2, 97 + k), (2, 97 + o)] ++ [(59, 0)]) v (v.1, v.2.1, v.2.2.1, v.2.2.2.1, v.2.2.2.2.1, v.2.2.2.2.2.1, updA (updA v.2.2.2.2.2.2.1 k (v.2.2.2.2.2.2.1 k ||| 2 ^ o)) o (v.2.2.2.2.2.2.1 o ||| 2 ^ k), v.2.2.2.2.2.2.2) := fun σ X n m la s h1 h2 h3 h4 => LN.same (v0 := wpk sameW) (x := k) (y := o) h1 h2 h4 (by omega) (by omega) (by omega) (by rw [v5]; exact Nat.zero_testBit _)
      obtain ⟨zt, ht, et, cs⟩ := T2.wr b9 (by show 10 ≤ 600; omega) (tp_same hk (by omega)) hY (by omega)
      rw [e2, b2s, e3, e4, b2s, e5, b2s, e6, b2s, e7, b2s, e8, b2s, e9, b2s, et, b2s]
      rcases cs with ⟨k1, k2, k3, k4⟩ | ⟨h9', n9, t9, R9, k2, k3, k3', k4, k5⟩
      · rw [k2, b2s, if_pos rfl, b941]
        refine ⟨ht, _, v, _, _, _, rfl, by omega, k3.up (by omega) (by omega), U2.gk k4 (by decide), ?_, cv⟩
        obtain ⟨q, f, A⟩ := A2
        exact ⟨q, f, A.gk k4 (by decide)⟩
      · rw [k2, b2s, if_neg (show ¬ (1 : Int32) = 0 by decide)]
        have w9 := k4.1.1
        obtain ⟨_, ⟨_, _, _, _, _, r8, _⟩, _, _, ⟨m1, m2, m3, m4⟩, ⟨u1, u2, u3, _⟩, _⟩ := id w9
        obtain ⟨a1, a2, a3⟩ := m4 k hk
        obtain ⟨c1, c2, c3⟩ := m4 o (by omega)
        have ku : hpR h9' ma k ≠ ua := ua_n w9 (by rw [a3]; show 52 ≠ 19; omega)
        have ou : hpR h9' ma o ≠ ua := ua_n w9 (by rw [c3]; show 52 ≠ 19; omega)
        obtain ⟨hA1, hh1⟩ : ∃ hA1, hA1 = setI h9' (hpR h9' ma k) (updA (hpI h9' (hpR h9' ma k)) o 1) := ⟨_, rfl⟩
        obtain ⟨hA2, hh2⟩ : ∃ hA2, hA2 = setI hA1 (hpR h9' ma o) (updA (hpI hA1 (hpR h9' ma o)) k 1) := ⟨_, rfl⟩
        have gS : GK [52] h9' hA2 0 0 := by
          rw [hh2, hh1]
          exact GK.tr (GK.setI (Or.inr a1) (by rw [a3]; decide) _ (fun z => by omega)) (GK.setI (Or.inr c1) (by show (hpS h9' _).1 ∈ _; rw [c3]; decide) _ (fun z => by omega))
        have q9 : TQ hA2 oa na ma ua su n9 F (nl + 1) := by
          refine ⟨?_, ?_, k4.1.2.2.ex gS⟩
          · rw [hh2, hh1]; exact (w9.sI ku _).sI ou _
          · rw [hh2, hh1]; exact (k4.1.2.1.sI (by omega) _).sI (by omega) _
        have k99 := w9.k99
        have kA : (hpS hA1 99).1 = 15 + 1 := by rw [hh1]; exact k99
        have rA : ∀ b, hpR hA1 b = hpR h9' b := fun b => by rw [hh1]; rfl
        have sA : ∀ b, hpS hA1 b = hpS h9' b := fun b => by rw [hh1]; rfl
        refine ⟨hA2, n9, _, nl + 1, t9, R9, ?_, by omega, (TT.gk k4 gS (by decide) q9).up (by omega) (by omega), (U2.gk k5 (by decide)).gk gS (by decide), ?_, v1, v2, v3, fun x hx => ⟨(v4 x hx).1, ?_⟩⟩
        · rw [gR_ok k99, obind, r8, ldR_ok (n := 5) m3 hk (by omega), obind, stZ_ok (n := 5) a3 (by omega) (by omega) (Or.inr rfl), obind, ← hh1, gR_ok kA, obind, rA, r8, ldR_ok (n := 5) (by rw [sA]; exact m3) (by omega) (by omega), obind, rA, stZ_ok (n := 5) (by rw [sA]; exact c3) hk (by omega) (Or.inr rfl), obind, ← hh2, b941]
        · obtain ⟨q, f, A⟩ := A2
          exact ⟨q, f, (A.gk k5 (by decide)).gk gS (by decide)⟩
        · show updA (updA v.2.2.2.2.2.2.1 k _) o _ x = 0
          rw [updA_ne _ _ (by omega), updA_ne _ _ (by omega)]; exact (v4 x hx).2
    · rw [if_neg j0, b941]
      exact ⟨h1, _, v, _, _, _, rfl, by omega, T1.up (by omega) (by omega), U1, A1, cv⟩
  · rw [if_neg (show ¬ (0 : Int32) < nI k from nI_nlt (a := 0) (by omega) (by omega)), b941]
    exact ⟨h, _, v, _, _, _, rfl, by omega, T.up (by omega) (by omega), hU, hA, cv⟩
theorem l717_ok (T : TT h00 h tb oa na ma ua su n F nl t R v c s) (hU : SUI h su ca na ua (k + 1)) (hA : ∃ q f, AL h na q f) (hv : CVs v F k S) (hc : CNC h cn S) (hk : k < 5) (F1 : 1 ≤ F) (F8 : F ≤ 8) (hJ : J ≤ 3) (hn : n + 100 < 1000000000) (x2 : Int32) :
    ∃ h' n' v' nl' t' R', mL_told_l717 99 x2 tb (nI k) cn (nI J) h = some (.inl (nI (k + 1), h')) ∧ n' ≤ n + 20 ∧ TT h00 h' tb oa na ma ua su n' F nl' t' R' v' (c + 240) (s + 120000) ∧ SUI h' su ca na ua (k + 1) ∧ (∃ q f, AL h' na q f) ∧ CV v' F (k + 1) := by
  unfold mL_told_l717
  obtain ⟨o, eo, h', n', v', nl', t', R', rfl, r⟩ := lp_inv (f := fun s : (Int32 × Hp) => mL_told_l717f 99 x2 tb (nI k) cn s.1 s.2) J
    (fun i st => ∃ h' n' v' S' nl' t' R', st = (nI (J - i), h') ∧ n' ≤ n + 4 * i ∧ TT h00 h' tb oa na ma ua su n' F nl' t' R' v' (c + 60 * i) (s + 30000 * i) ∧ SUI h' su ca na ua (k + 1) ∧ (∃ q f, AL h' na q f) ∧ CVs v' F k S' ∧ CNC h' cn S')
    (fun o => ∃ h' n' v' nl' t' R', o = (.inl (nI (k + 1), h')) ∧ n' ≤ n + 20 ∧ TT h00 h' tb oa na ma ua su n' F nl' t' R' v' (c + 240) (s + 120000) ∧ SUI h' su ca na ua (k + 1) ∧ (∃ q f, AL h' na q f) ∧ CV v' F (k + 1))
    (fun i st hi hQ => by
      obtain ⟨h1, n1, v1, S1, nl1, t1, R1, rfl, hn1, T1, U1, A1, V1, C1⟩ := hQ
      obtain ⟨j, h2, hj, e2, q2, g2⟩ := T1.1.draw (by omega) (m := F) (by omega) (by omega)
      obtain ⟨j3, h3, hj3, e3, q3, g3⟩ := q2.draw (by omega) (m := 4) (by omega) (by omega)
      have e3 : mL_draw 99 (4 : Int32) h2 = some (nI j3, h3) := e3
      have g := GK.tr g2 g3
      have T3 := TT.gk T1 g (by decide) q3
      have U3 := U1.gk g (by decide)
      have A3 : ∃ q f, AL h3 na q f := by obtain ⟨q, f, A⟩ := A1; exact ⟨q, f, A.gk g (by decide)⟩
      have C3 := C1.gk g (by decide)
      obtain ⟨h4, n4, v4, S4, nl4, t4, R4, e4, hn4, T4, U4, A4, V4, C4⟩ := say1 (so := if j3 = 0 then 0 else 1) (m := J - (i + 1)) T3 U3 A3 V1 C3 hk hj F8 (by split <;> omega) (by omega) x2
      have em : J - (i + 1) + 1 = J - i := by omega
      refine ⟨(nI (J - (i + 1)), h4), ?_, h4, n4, v4, S4, nl4, t4, R4, rfl, by omega, T4.up (by omega) (by omega), U4, A4, V4, C4⟩
      show mL_told_l717f 99 x2 tb (nI k) cn (nI (J - i)) h1 = _
      unfold mL_told_l717f
      rw [if_pos (show (0 : Int32) < nI (J - i) from nI_lt (a := 0) (by omega) (by omega)), gI_ok T1.1.1.k99, obind, T1.1.2.1.2.1, e2, b2s, e3, b2s, c_0 (by omega)]
      rw [em] at e4
      by_cases q : j3 = 0
      · rw [if_pos q] at e4
        rw [if_pos q]; exact e4
      · rw [if_neg q] at e4
        rw [if_neg q]; exact e4)
    (fun st hQ => by
      obtain ⟨h1, n1, v1, S1, nl1, t1, R1, rfl, hn1, T1, U1, A1, V1, C1⟩ := hQ
      obtain ⟨h4, n4, v4, nl4, t4, R4, e4, hn4, T4, U4, A4, V4⟩ := same_ok T1 U1 A1 V1 hk (by omega) x2
      refine ⟨.inl (nI (k + 1), h4), ?_, h4, n4, v4, nl4, t4, R4, rfl, by omega, T4.up (by omega) (by omega), U4, A4, V4⟩
      show mL_told_l717f 99 x2 tb (nI k) cn (nI (J - J)) h1 = _
      unfold mL_told_l717f
      rw [Nat.sub_self, if_neg (show ¬ (0 : Int32) < nI 0 by decide), e4, xts])
    (s := (nI J, h)) ⟨h, n, v, S, nl, t, R, rfl, by omega, T.up (by omega) (by omega), hU, hA, hv, hc⟩
  exact ⟨h', n', v', nl', t', R', eo, r⟩
end J8
