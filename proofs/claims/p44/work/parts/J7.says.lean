/-! TOLD: what counts say, which are the same -/
/-- the suit told now: its counts' list -/
def SUI (h : Hp) (su ca na ua k : Nat) : Prop := (433 ≤ su ∧ su < hpN h ∧ hpS h su = (15, 5) ∧ hpR h su 2 = ca ∧ ca ≠ ua ∧ ca ≠ na) ∧ ∃ g, AL h ca k g
/-- what is told of counts up to k -/
def CV (v : Vt) (F k : Nat) : Prop := v.1 = F ∧ v.2.1 = k ∧ v.2.2.2.1 ≤ k ∧ ∀ x, k ≤ x → v.2.2.2.2.2.1 x = 0 ∧ v.2.2.2.2.2.2.1 x = 0
/-- the same while count k is told -/
def CVs (v : Vt) (F k S : Nat) : Prop := v.1 = F ∧ v.2.1 = k + 1 ∧ v.2.2.2.1 ≤ k + 1 ∧ (∀ x, k + 1 ≤ x → v.2.2.2.2.2.1 x = 0 ∧ v.2.2.2.2.2.2.1 x = 0) ∧ v.2.2.2.2.2.2.1 k = 0 ∧ v.2.2.2.2.2.1 k = S ∧ S < 2 ^ F
section J7
variable {h h' h0 h00 h1 h2 h3 : Hp} {P P' : Nat → Prop} {c c' s s' z a b n n' x y m F q oa na ma ua su ca nl lo d w e tb k S cn c1 s1 cnts : Nat} {t u : List Nat} {l l' : List Nat} {f g : Nat → Nat} {R Rk : List (Nat × Nat)} {v v' : Vt}
theorem SUI.gk (w : SUI h su ca na ua k) (e : GK l h h1 c s) (hl : 15 ∉ l ∧ 19 ∉ l ∧ 78 ∉ l) : SUI h1 su ca na ua k := by
  obtain ⟨⟨w1, w2, w3, w4, w5⟩, g, w6⟩ := w
  have sm := e.sm' w2 (by omega) (by rw [w3]; exact hl.1)
  have le := e.le
  exact ⟨⟨w1, by omega, by rw [sm.1]; exact w3, by rw [sm.2.2.2]; exact w4, w5⟩, g, w6.gk e hl.2⟩
theorem TT.gk (T : TT h00 h tb oa na ma ua su n F nl t R v c s) (e : GK l h h1 c' s') (hl : 17 ∉ l ∧ 53 ∉ l) (q : TQ h1 oa na ma ua su n' F nl) : TT h00 h1 tb oa na ma ua su n' F nl t R v (c + c') (s + s') := by
  obtain ⟨q0, sb, t4, tp, hz, G⟩ := T
  exact ⟨q, e.sb sb hl.1 hl.2, t4, tp, hz, G.tr e.pl (fun _ _ z => z)⟩
/-- a line that is written: it fits or not -/
theorem TT.wr (T : TT h00 h tb oa na ma ua su n F nl t R v c s) (b : BW h h1 x u c1 s1 oa na ma ua su n' F nl) (hu : u.length ≤ 600) (htp : Tp u Rk) (hY : LY (Rk ++ [(59, 0)]) v v') (hn : n' + 2 < 1000000000) :
    ∃ z h2, mJ4_toString_0e30d x h1 = some (z, h2) ∧ ((470 < t.length + u.length ∧ mL_fits 99 tb z h2 = some (0, h2) ∧ TT h00 h2 tb oa na ma ua su n' F nl t R v (c + (c1 + 2)) (s + (s1 + 604)) ∧ GK [16] h h2 (c1 + 2) (s1 + 604)) ∨
      (∃ h3 n2 t2 R2, mL_fits 99 tb z h2 = some (1, h3) ∧ n2 ≤ n' + 2 ∧ t2.length ≤ t.length + u.length + 2 ∧ TT h00 h3 tb oa na ma ua su n2 F (nl + 1) t2 R2 v' (c + (c1 + 5)) (s + (s1 + 3604)) ∧ GK [16, 17, 53] h h3 (c1 + 5) (s1 + 3604))) := by
  obtain ⟨z, h2, e1, st, g1, q1⟩ := b.tos hu
  refine ⟨z, h2, e1, ?_⟩
  rcases T.line g1 (by decide) q1 st hu htp hY hn with ⟨k1, k2, k3⟩ | ⟨h3, n2, t2, R2, k1, k2, k3, k4, k5⟩
  · exact Or.inl ⟨k1, k2, k3, g1⟩
  · refine Or.inr ⟨h3, n2, t2, R2, k1, k2, k3, ?_, ?_⟩
    · obtain ⟨a1, a2, a3, a4, a5, a6⟩ := k4
      exact ⟨a1, a2, a3, a4, a5, a6.up (fun _ _ z => z) (by omega) (by omega)⟩
    · exact (GK.tr (g1.mn (l' := [16, 17, 53]) (fun k hk => by simp at hk ⊢; omega) (Nat.le_refl _) (Nat.le_refl _)) k5).up (fun _ _ z => z) (by omega) (by omega)
def saysW : List Nat := [115, 97, 121, 115]
def sameW : List Nat := [115, 97, 109, 101]
theorem tp_says {k f : Nat} (hk : k < 5) (hf : f < 8) : Tp (((([] ++ [115, 97, 121, 115, 32]) ++ [99, 97 + k]) ++ [32]) ++ [97 + f]) ((263, wpk saysW) :: (2, 97 + k) :: ([] ++ [(2, f + 1)])) := by
  have h1 : Tp saysW [(263, wpk saysW)] := Tp.lit (by decide +kernel)
  have h2 := (h1.appF (TpF.sp (c := 32) (Or.inl rfl)) (by decide) (by decide)).appT (Tp.count hk)
  exact (h2.appF (TpF.sp (c := 32) (Or.inl rfl)) (by decide) (by decide)).appT (Tp.fact hf)
theorem tp_saysN {k f : Nat} (hk : k < 5) (hf : f < 8) : Tp (((([] ++ [115, 97, 121, 115, 32]) ++ [99, 97 + k]) ++ [32, 33]) ++ [97 + f]) ((263, wpk saysW) :: (2, 97 + k) :: ([(33, 0)] ++ [(2, f + 1)])) := by
  have h1 : Tp saysW [(263, wpk saysW)] := Tp.lit (by decide +kernel)
  have h2 := (h1.appF (TpF.sp (c := 32) (Or.inl rfl)) (by decide) (by decide)).appT (Tp.count hk)
  have h3 := (TpF.sp (c := 32) (Or.inl rfl)).app (TpF.mk (c := 33) (by decide))
  exact (h2.appF h3 (by decide) (by decide)).appT (Tp.fact hf)
theorem tp_same {k o : Nat} (hk : k < 5) (ho : o < 5) : Tp (((([] ++ [115, 97, 109, 101, 32]) ++ [99, 97 + k]) ++ [32]) ++ [99, 97 + o]) ([(264, wpk sameW), (2, 97 + k), (2, 97 + o)]) := by
  have h1 : Tp sameW [(264, wpk sameW)] := Tp.lit (by decide +kernel)
  have h2 := (h1.appF (TpF.sp (c := 32) (Or.inl rfl)) (by decide) (by decide)).appT (Tp.count hk)
  exact (h2.appF (TpF.sp (c := 32) (Or.inl rfl)) (by decide) (by decide)).appT (Tp.count ho)
/-- the cell of a count while it is told -/
def CNC (h : Hp) (cn S : Nat) : Prop := 433 ≤ cn ∧ cn < hpN h ∧ hpS h cn = (13, 9) ∧ hpI h cn 5 = nI S
theorem CNC.gk (w : CNC h cn S) (e : GK l h h1 c s) (hl : 13 ∉ l) : CNC h1 cn S := by
  obtain ⟨w1, w2, w3, w4⟩ := w
  have sm := e.sm' w2 (by omega) (by rw [w3]; exact hl)
  have le := e.le
  exact ⟨w1, by omega, by rw [sm.1]; exact w3, by rw [sm.2.1]; exact w4⟩
/-- one thing said -/
theorem say1 {fa so : Nat} (T : TT h00 h tb oa na ma ua su n F nl t R v c s) (hU : SUI h su ca na ua (k + 1)) (hA : ∃ q f, AL h na q f) (hv : CVs v F k S) (hc : CNC h cn S) (hk : k < 5) (hfa : fa < F) (F8 : F ≤ 8) (hso : so < 2) (hn : n + 2 < 1000000000) (x2 : Int32) :
    ∃ h' n' v' S' nl' t' R', mL_told_b745 99 x2 tb (nI k) cn (nI (m + 1)) (nI fa) (nI so) h = some (.inl (nI m, h')) ∧ n' ≤ n + 2 ∧ TT h00 h' tb oa na ma ua su n' F nl' t' R' v' (c + 60) (s + 30000) ∧ SUI h' su ca na ua (k + 1) ∧ (∃ q f, AL h' na q f) ∧ CVs v' F k S' ∧ CNC h' cn S' := by
  have p256 := ev_lt F8
  obtain ⟨v1, v2, v3, v4, v5, v6, v7⟩ := id hv
  obtain ⟨n1, n2, n3, n4⟩ := id hc
  have kc : (hpS h cn).1 = 12 + 1 := by rw [n3]
  have up : ∀ {h' nl' t' R' n' v'} {c' s' : Nat}, c' ≤ c + 60 → s' ≤ s + 30000 → TT h00 h' tb oa na ma ua su n' F nl' t' R' v' c' s' → TT h00 h' tb oa na ma ua su n' F nl' t' R' v' (c + 60) (s + 30000) := fun hc hs T => ⟨T.1, T.2.1, T.2.2.1, T.2.2.2.1, T.2.2.2.2.1, T.2.2.2.2.2.up (fun _ _ z => z) hc hs⟩
  have b848 : ∀ h, mL_told_b848 99 x2 tb (nI k) cn (nI (m + 1)) h = some (.inl (nI m, h)) := fun h => by
    unfold mL_told_b848
    rw [nI_mn1 (by omega), Nat.add_sub_cancel]
  by_cases hb : S.testBit fa = true
  · refine ⟨h, n, v, S, nl, t, R, ?_, by omega, up (by omega) (by omega) T, hU, hA, hv, hc⟩
    unfold mL_told_b745
    rw [gI_ok kc, obind, n4, bit1 (by omega) (by omega), if_pos hb, b848]
  · -- the line
    have q := T.1
    obtain ⟨h1, e1, b1⟩ := BW.new q
    obtain ⟨h2, e2, b2'⟩ := b1.app (u := [115, 97, 121, 115, 32]) st31 (by decide)
    obtain ⟨z3, h3, e3, st3, x3⟩ := w_count b2'.2.2.2 (k := k) (by omega)
    have b3 := b2'.np x3
    obtain ⟨h4, e4, b4⟩ := b3.app st3 (by show 5 + 2 ≤ 600; omega)
    have rest : ∀ {sep : List Nat} {zs : Nat} {NG : List (Nat × Nat)}, (∀ h, ST h zs sep) → sep.length ≤ 2 → ((NG = [] ∧ so = 1) ∨ (NG = [(33, 0)] ∧ so = 0)) → Tp (((([] ++ [115, 97, 121, 115, 32]) ++ [99, 97 + k]) ++ sep) ++ [97 + fa]) ((263, wpk saysW) :: (2, 97 + k) :: (NG ++ [(2, fa + 1)])) → mL_told_b745 99 x2 tb (nI k) cn (nI (m + 1)) (nI fa) (nI so) h = mL_told_b796 99 x2 tb (nI k) cn (nI (m + 1)) (nI fa) (nI so) 99 tb (hpN h) zs h4 →
        ∃ h' n' v' S' nl' t' R', mL_told_b745 99 x2 tb (nI k) cn (nI (m + 1)) (nI fa) (nI so) h = some (.inl (nI m, h')) ∧ n' ≤ n + 2 ∧ TT h00 h' tb oa na ma ua su n' F nl' t' R' v' (c + 60) (s + 30000) ∧ SUI h' su ca na ua (k + 1) ∧ (∃ q f, AL h' na q f) ∧ CVs v' F k S' ∧ CNC h' cn S' := by
      intro sep zs NG hsep hsl hNG htp go
      obtain ⟨h5, e5, b5⟩ := b4.app (hsep h4) (by show 5 + 2 + sep.length ≤ 600; omega)
      obtain ⟨z6, h6, e6, st6, x6⟩ := w_fact b5.2.2.2 (f := fa) (by omega)
      have b6 := b5.np x6
      have l6 : ((([] ++ [115, 97, 121, 115, 32]) ++ [99, 97 + k]) ++ sep).length = 7 + sep.length := by rw [List.length_append]; rfl
      obtain ⟨h7, e7, b7⟩ := b6.app st6 (by rw [l6]; show 7 + sep.length + 1 ≤ 600; omega)
      have hY : LY (((263, wpk saysW) :: (2, 97 + k) :: (NG ++ [(2, fa + 1)])) ++ [(59, 0)]) v (v.1, v.2.1, v.2.2.1, v.2.2.2.1, v.2.2.2.2.1, updA v.2.2.2.2.2.1 k (v.2.2.2.2.2.1 k ||| 2 ^ fa), v.2.2.2.2.2.2) := fun σ X n m la s h1 h2 h3 h4 => by
        have := LN.says (σ := σ) (X := X) (n := n) (m := m) (v0 := wpk saysW) (v := v) (k := k) (f := fa) (so := so) (NG := NG) h1 h2 h3 h4 hNG (by omega) (by omega) (by rw [v6]; exact Bool.eq_false_iff.mpr hb)
        have e : (((263, wpk saysW) :: (2, 97 + k) :: (NG ++ [(2, fa + 1)])) ++ [(59, 0)]) = (263, wpk saysW) :: (2, 97 + k) :: (NG ++ [(2, fa + 1), (59, 0)]) := by
          show (263, wpk saysW) :: (2, 97 + k) :: ((NG ++ [(2, fa + 1)]) ++ [(59, 0)]) = _
          rw [List.append_assoc]; rfl
        rw [e]; exact this
      have lu : (((([] ++ [115, 97, 121, 115, 32]) ++ [99, 97 + k]) ++ sep) ++ [97 + fa]).length ≤ 600 := by rw [List.length_append, l6]; show 7 + sep.length + 1 ≤ 600; omega
      obtain ⟨z8, h8, e8, cs⟩ := T.wr b7 lu htp hY hn
      have g16 : ∀ k, k ∈ [16] → k ∈ [16, 17, 53] := fun k hk => by simp at hk ⊢; omega
      rcases cs with ⟨k1, k2, k3, k4⟩ | ⟨h9, n9, t9, R9, k2, k3, k3', k4, k5⟩
      · refine ⟨h8, n, v, S, nl, t, R, ?_, by omega, up (by omega) (by omega) k3, hU.gk k4 (by decide), ?_, hv, hc.gk k4 (by decide)⟩
        · rw [go]
          unfold mL_told_b796
          rw [e5, b2s, e6, b2s, e7, b2s, e8, b2s, k2, b2s, if_pos rfl, b848]
        · obtain ⟨q, f, A⟩ := hA
          exact ⟨q, f, A.gk k4 (by decide)⟩
      · have hc9 := hc.gk k5 (by decide)
        obtain ⟨m1, m2, m3, m4⟩ := id hc9
        have kc9 : (hpS h9 cn).1 = 12 + 1 := by rw [m3]
        obtain ⟨hA1, hh1⟩ : ∃ hA1, hA1 = setI h9 cn (updA (hpI h9 cn) 5 (nI (S ||| 2 ^ fa))) := ⟨_, rfl⟩
        have kcA : (hpS hA1 cn).1 = 12 + 1 := by rw [hh1]; exact kc9
        obtain ⟨hA2, hh2⟩ : ∃ hA2, hA2 = setI hA1 cn (updA (hpI hA1 cn) 6 (hpI hA1 cn 6 ||| (nI so <<< (nI fa &&& 31)))) := ⟨_, rfl⟩
        have ua433 := k4.1.1.2.2.2.2.2.1
        have cnu : cn ≠ ua := ua_n k4.1.1 (by rw [m3]; show 13 ≠ 19; omega)
        have gS : GK [13] h9 hA2 0 0 := by
          rw [hh2, hh1]
          exact GK.tr (GK.setI (Or.inr m1) (by rw [m3]; decide) _ (fun z => by omega)) (GK.setI (Or.inr m1) (by show (hpS h9 cn).1 ∈ _; rw [m3]; decide) _ (fun z => by omega))
        have q9 : TQ hA2 oa na ma ua su n9 F (nl + 1) := by
          rw [hh2, hh1]
          refine ⟨(k4.1.1.sI cnu _).sI cnu _, (k4.1.2.1.sI (by omega) _).sI (by omega) _, k4.1.2.2.ex (P := KB [13] h9) (c := 0) (s := 0) ?_⟩
          rw [← hh1, ← hh2]; exact gS
        have TT9 := TT.gk k4 gS (by decide) q9
        have hS256 : S ||| 2 ^ fa < 2 ^ F := Nat.or_lt_two_pow v7 (Nat.pow_lt_pow_right (by omega) hfa)
        refine ⟨hA2, n9, _, S ||| 2 ^ fa, nl + 1, t9, R9, ?_, k3, up (by omega) (by omega) TT9, (hU.gk k5 (by decide)).gk gS (by decide), ?_, ⟨v1, v2, v3, fun x hx => ⟨?_, (v4 x hx).2⟩, v5, ?_, hS256⟩, ⟨m1, ?_, ?_, ?_⟩⟩
        · rw [go]
          unfold mL_told_b796
          rw [e5, b2s, e6, b2s, e7, b2s, e8, b2s, k2, b2s, if_neg (show ¬ (1 : Int32) = 0 by decide), gI_ok kc9, obind, m4, nx_shl1 fa (by omega), nx_or, sI_ok kc9, obind, ← hh1, gI_ok kcA, obind, sI_ok kcA, obind, ← hh2, b848]
        · obtain ⟨q, f, A⟩ := hA
          exact ⟨q, f, (A.gk k5 (by decide)).gk gS (by decide)⟩
        · show updA v.2.2.2.2.2.1 k _ x = 0
          rw [updA_ne _ _ (by omega)]; exact (v4 x hx).1
        · show updA v.2.2.2.2.2.1 k (v.2.2.2.2.2.1 k ||| 2 ^ fa) k = _
          rw [updA_same, v6]
        · rw [hh2, hh1]; exact m2
        · rw [hh2, hh1]; exact m3
        · rw [hh2, setI_I, if_pos rfl, updA_ne _ _ (by omega), hh1, setI_I, if_pos rfl, updA_same]
    have pre : ∀ {o}, (if nI so = (1 : Int32) then mL_told_b796 99 x2 tb (nI k) cn (nI (m + 1)) (nI fa) (nI so) 99 tb (hpN h) 12 h4 else mL_told_b796 99 x2 tb (nI k) cn (nI (m + 1)) (nI fa) (nI so) 99 tb (hpN h) 32 h4) = o → mL_told_b745 99 x2 tb (nI k) cn (nI (m + 1)) (nI fa) (nI so) h = o := fun {o} e => by
      unfold mL_told_b745
      rw [gI_ok kc, obind, n4, bit1 (by omega) (by omega), if_neg hb, e1, e2, b2s, e3, b2s, e4, b2s]
      exact e
    rcases (show so = 1 ∨ so = 0 by omega) with rfl | rfl
    · exact rest (sep := [32]) (zs := 12) (NG := []) (fun _ => st12) (by decide) (Or.inl ⟨rfl, rfl⟩) (tp_says hk (by omega)) (pre (if_pos rfl))
    · exact rest (sep := [32, 33]) (zs := 32) (NG := [(33, 0)]) (fun _ => st32) (by decide) (Or.inr ⟨rfl, rfl⟩) (tp_saysN hk (by omega)) (pre (if_neg (by decide)))
end J7
