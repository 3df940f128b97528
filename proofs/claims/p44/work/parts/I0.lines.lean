/-! THE LINES of a suit, one behind the other -/
section I0
variable {σ : Sg} {I I' J I1 I2 I3 Ja : Nat → Nat → Int32} {L L' L1 L2 : Nat → Nat → Int64} {X : Nat → Nat} {n m i la off t1 t2 dp h0 N kk lim s v0 k k' b j w r d0 : Nat} {T T' : Nat → Nat} {R R' Rk : List (Nat × Nat)} {v v' v1 v2 : Vt}
theorem tsw_hi {α : Type} {lo c : Nat} (hc : c < 2147483648) (l : List α) (d : α) : tsw (nI c) (lo : Int) l d = if c < lo then d else l.getD (c - lo) d := by
  unfold tsw
  rw [nI_toInt hc]
  by_cases q : c < lo
  · rw [if_pos (by omega), if_pos q]
  · rw [if_neg (by omega), if_neg q]
    congr 1
    omega
theorem tsw256 {α : Type} {c : Nat} (hc : c < 2147483648) (l : List α) (d : α) : tsw (nI c) 256 l d = if c < 256 then d else l.getD (c - 256) d := tsw_hi (lo := 256) hc l d
/-- a line is counted -/
theorem SV.inc (hla : isLa la) (hs : s = 268 ∨ s = 275) (h : SV I L X n m la s T lim i R) : SV (rowUp I la (updA (I la) 0 (nI (T 0 + 1)))) L X n m la s (updA T 0 (T 0 + 1)) lim i R := by
  have hla' : la = 112 ∨ la = 190 := hla
  have hgt := la_gt hla
  obtain ⟨hp, hS, hD, hO⟩ := h
  obtain ⟨T', hT⟩ : ∃ T', T' = updA T 0 (T 0 + 1) := ⟨_, rfl⟩
  have q1 := (hp.fld hla (k := 0) (nI (T 0 + 1)) (by omega) (by omega) (by omega)).set (k := 0) (T 0 + 1) (by omega) (by omega)
  obtain ⟨I', hI⟩ : ∃ I', I' = rowUp I la (updA (I la) 0 (nI (T 0 + 1))) := ⟨_, rfl⟩
  rw [← hT, ← hI] at q1
  rw [← hT, ← hI]
  have t0 : T' 0 = T 0 + 1 := by rw [hT, updA_same]
  have tn : ∀ j, j ≠ 0 → T' j = T j := fun j a => by rw [hT, updA_ne _ _ a]
  have i0 : I' la 0 = nI (T 0 + 1) := by rw [hI, rowUp_same, updA_same]
  have ik : ∀ k, k ≠ 0 → I' la k = I la k := fun k a => by rw [hI, rowUp_same, updA_ne _ _ a]
  have ix : ∀ x, x ≠ la → I' x = I x := fun x a => by rw [hI, rowUp_ne _ _ a]
  have ec : cT T' = cT T := by funext x; exact tn _ (by omega)
  have e7 : T' 7 = T 7 := tn 7 (by omega)
  have g : GR T T' := ⟨by rw [e7]; exact Nat.le_refl _, fun j h1 h2 => tn j (by omega), fun e he => ⟨tn _ (by omega), tn _ (by omega)⟩⟩
  have em : may T' = may T := g.mayc hS (tn 3 (by omega)) (fun k _ => tn _ (by omega))
  have ef : fst0 T' = fst0 T := fst0_cg (tn 2 (by omega)) (fun k _ => tn _ (by omega))
  have en : ∀ n, ndT T' n = ndT T n := fun n => ndT_cg (fun k _ => tn _ (by omega))
  refine ⟨by rw [tn 1 (by omega), tn 2 (by omega)]; exact q1, ?_, ?_, hO⟩
  · unfold SP at hS ⊢
    rw [ec, em, en]
    simp (disch := omega) only [tn]
    exact hS
  · unfold SDr sl at hD ⊢
    rw [ec, em, ef, i0, t0]
    simp (disch := omega) only [tn, ix, ik]
    exact ⟨⟨trivial, hD.1.2⟩, hD.2⟩
theorem VW.inc (h : VW T lim v) : VW (updA T 0 (T 0 + 1)) lim v := by
  have tn : ∀ j, j ≠ 0 → updA T 0 (T 0 + 1) j = T j := fun j a => by rw [updA_ne _ _ a]
  have em : may (updA T 0 (T 0 + 1)) = may T := by
    funext w
    unfold may ev
    have ec : cT (updA T 0 (T 0 + 1)) = cT T := by funext x; exact tn _ (by omega)
    rw [ec]
    simp (disch := omega) only [tn]
  refine ⟨by rw [tn 1 (by omega)]; exact h.1, by rw [tn 2 (by omega)]; exact h.2.1, by rw [tn 3 (by omega)]; exact h.2.2.1, by rw [tn 4 (by omega)]; exact h.2.2.2.1, h.2.2.2.2.1, fun k hk' => by rw [tn (51 + k) (by omega)]; exact h.2.2.2.2.2.1 k hk', fun k hk' => by rw [tn (61 + k) (by omega)]; exact h.2.2.2.2.2.2.1 k hk', fun w => by rw [em]; exact h.2.2.2.2.2.2.2 w⟩
/-- a line, whatever comes behind it: what is told becomes this -/
def LN (σ : Sg) (X : Nat → Nat) (n m la s : Nat) (Rk : List (Nat × Nat)) (v v' : Vt) : Prop := (hdk Rk ≠ 0 ∧ hdk Rk < 1000) ∧ ∀ ⦃I : Nat → Nat → Int32⦄ ⦃L : Nat → Nat → Int64⦄ ⦃T : Nat → Nat⦄ ⦃lim i : Nat⦄ ⦃R' : List (Nat × Nat)⦄, SV I L X n m la s T lim i (Rk ++ R') → VW T lim v → LQ σ I L X n m la s T (i + Rk.length) R' v' (mX2_readLine 282 (hk σ I L))
theorem LQ.line {cls : Option (Int32 × Hp)} (h : LQ σ I L X n m la s T i R v cls) (e : mX2_readLine 282 (hk σ I L) = b2 cls fun v h => (z01 v).bind fun v => some (v, h)) : LQ σ I L X n m la s T i R v (mX2_readLine 282 (hk σ I L)) := by
  obtain ⟨I', L', T', lim', e1, e2⟩ := h
  exact ⟨I', L', T', lim', by rw [e, e1, b2s]; rfl, e2⟩
/-- lines: k of them -/
def LSq (σ : Sg) (X : Nat → Nat) (n m la s k : Nat) (Rk : List (Nat × Nat)) (v v' : Vt) : Prop := k ≤ Rk.length ∧ ∀ ⦃I : Nat → Nat → Int32⦄ ⦃L : Nat → Nat → Int64⦄ ⦃T : Nat → Nat⦄ ⦃lim i : Nat⦄ ⦃R' : List (Nat × Nat)⦄, SV I L X n m la s T lim i (Rk ++ R') → VW T lim v → T 0 ≤ i →
  ∃ I' L' T' lim', mX2_readSuit_l26 282 (nI (T 0)) (hk σ I L) = mX2_readSuit_l26 282 (nI (T' 0)) (hk σ I' L') ∧ SV I' L' X n m la s T' lim' (i + Rk.length) R' ∧ VW T' lim' v' ∧ T' 0 = T 0 + k ∧ FS la s I L I' L'
theorem LSq.nil : LSq σ X n m la s 0 [] v v := ⟨Nat.le_refl _, fun I L T lim i R' h hv _ => ⟨I, L, T, lim, rfl, h, hv, rfl, FS.rf⟩⟩
theorem LSq.app (h : LSq σ X n m la s k R v v1) (g : LSq σ X n m la s k' R' v1 v2) : LSq σ X n m la s (k + k') (R ++ R') v v2 := by
  refine ⟨by rw [List.length_append]; have := h.1; have := g.1; omega, fun I L T lim i R2 hs hv h0 => ?_⟩
  rw [List.append_assoc] at hs
  obtain ⟨I1, L1, T1, lim1, e1, e2, e3, e4, e5⟩ := h.2 hs hv h0
  obtain ⟨I2, L2, T2, lim2, f1, f2, f3, f4, f5⟩ := g.2 e2 e3 (by have := h.1; omega)
  refine ⟨I2, L2, T2, lim2, e1.trans f1, ?_, f3, by omega, e5.tr f5⟩
  rw [List.length_append, ← Nat.add_assoc]
  exact f2
theorem LN.ls (hla : isLa la) (hg : gpl σ = la) (hs : s = 268 ∨ s = 275) (h : LN σ X n m la s Rk v v') : LSq σ X n m la s 1 Rk v v' := by
  have hla' : la = 112 ∨ la = 190 := hla
  cases Rk with
  | nil => exact absurd rfl h.1.1
  | cons q Rt =>
    obtain ⟨⟨hq0, hq1⟩, hh⟩ := h
    refine ⟨by rw [List.length_cons]; omega, fun I L T lim i R2 sv hv h0 => ?_⟩
    obtain ⟨I1, L1, T1, lim1, e1, e2, e3, e4, e5⟩ := hh sv hv
    have hp := sv.1
    have him : i < m := hp.2.1.1
    have h480 : T 0 < 480 := by have := hp.1.1; have := hp.1.2.1; omega
    have nk : mX2_nextKind 282 (hk σ I L) = some (nI q.1) := at_kind hp.1 hp.2.1
    have d0 : I1 la 0 = nI (T1 0) := e2.2.2.1.1.1
    refine ⟨rowUp I1 la (updA (I1 la) 0 (nI (T1 0 + 1))), L1, updA T1 0 (T1 0 + 1), lim1, ?_, e2.inc hla hs, e3.inc, by rw [updA_same, e4], e5.tr ⟨fun x a b c d => rowUp_ne _ _ (by omega), fun _ _ _ _ => rfl⟩⟩
    unfold mX2_readSuit_l26
    refine lp_inl ?_
    show mX2_readSuit_l26f 282 (nI (T 0)) (hk σ I L) = _
    unfold mX2_readSuit_l26f
    have hq0 : q.1 ≠ 0 := hq0
    have hq1 : q.1 < 1000 := hq1
    rw [if_pos (show nI (T 0) < (480 : Int32) from nI_lt (b := 480) h480 (by omega)), nk, obind, c_0 (by omega), if_neg hq0, e1, b2s, if_neg (show ¬ (1 : Int32) = 0 by decide), gDr, hg, gI_la hla, obind, d0, sI_la hla, obind, nI_1, nI_1, updA_same, e4]
theorem loop_end (h : SV I L X n m la s T lim i []) : mX2_readSuit_l26 282 (nI (T 0)) (hk σ I L) = some (1, hk σ I L) := by
  have nk : mX2_nextKind 282 (hk σ I L) = some (nI 0) := at_kind h.1.1 h.1.2.1
  unfold mX2_readSuit_l26
  refine lp_inr ?_
  show mX2_readSuit_l26f 282 (nI (T 0)) (hk σ I L) = _
  unfold mX2_readSuit_l26f
  rw [nk, obind, if_pos (show nI 0 = (0 : Int32) from rfl), xts]
  split <;> rfl
/-! each line -/
theorem LN.fact {o : Nat} {OD : List (Nat × Nat)} (hla : isLa la) (hg : gpl σ = la) (hs : s = 268 ∨ s = 275) (hod : (OD = [] ∧ o = 5) ∨ (OD = [(3, o)] ∧ 1 ≤ o ∧ o ≤ 9)) (h8 : v.1 < 8) : LN σ X n m la s ((256, v0) :: (2, v.1 + 1) :: (OD ++ [(59, 0)])) v (v.1 + 1, v.2) := by
  refine ⟨⟨by show 256 ≠ 0; omega, by show 256 < 1000; omega⟩, fun I L T lim i R' h hv => ?_⟩
  have e : ((256, v0) :: (2, v.1 + 1) :: (OD ++ [(59, 0)])) ++ R' = (256, v0) :: (2, T 1 + 1) :: (OD ++ ((59, 0) :: R')) := by
    rw [hv.1]
    show (256, v0) :: (2, v.1 + 1) :: ((OD ++ [(59, 0)]) ++ R') = _
    rw [List.append_assoc]; rfl
  rw [e] at h
  have q := l_fact hla hg hs hod (by rw [hv.1]; exact h8) h hv
  have el : ((256, v0) :: (2, v.1 + 1) :: (OD ++ [(59, 0)])).length = 3 + OD.length := by
    rw [List.length_cons, List.length_cons, List.length_append, List.length_singleton]; omega
  rw [el]
  refine q.line ?_
  have nk : mX2_nextKind 282 (hk σ I L) = some (nI 256) := at_kind h.1.1 h.1.2.1
  unfold mX2_readLine
  rw [if_pos s282, nk, obind, tsw256 (by omega), if_neg (by omega)]
  rfl
theorem LN.limit {l : Nat} (hla : isLa la) (hg : gpl σ = la) (hs : s = 268 ∨ s = 275) (hl : 1 ≤ l) (hl9 : l ≤ 999) (h0 : v.2.2.2.2.1 = 0) : LN σ X n m la s [(265, v0), (3, l), (59, 0)] v (v.1, v.2.1, v.2.2.1, v.2.2.2.1, l, v.2.2.2.2.2) := by
  refine ⟨⟨by show 265 ≠ 0; omega, by show 265 < 1000; omega⟩, fun I L T lim i R' h hv => ?_⟩
  have e0 : lim = 0 := by rw [hv.2.2.2.2.1]; exact h0
  subst e0
  have q := l_limit hla hg hs hl hl9 h hv
  refine q.line ?_
  have nk : mX2_nextKind 282 (hk σ I L) = some (nI 265) := at_kind h.1.1 h.1.2.1
  unfold mX2_readLine
  rw [if_pos s282, nk, obind, tsw256 (by omega), if_neg (by omega)]
  rfl
theorem LN.never {d : Nat} {Tt : Tr d} (hla : isLa la) (hg : gpl σ = la) (hs : s = 268 ∨ s = 275) (hd : d ≤ 2) (ok : okT v.1 d Tt) (q6 : v.2.2.1 < 6) (hw : ∃ w, w < 2 ^ v.1 ∧ v.2.2.2.2.2.2.2 w = true ∧ hT d Tt w = false) : LN σ X n m la s ((257, v0) :: (kA d Tt ++ [(59, 0)])) v (v.1, v.2.1, v.2.2.1 + 1, v.2.2.2.1, v.2.2.2.2.1, v.2.2.2.2.2.1, v.2.2.2.2.2.2.1, fun w => v.2.2.2.2.2.2.2 w && !hT d Tt w) := by
  refine ⟨⟨by show 257 ≠ 0; omega, by show 257 < 1000; omega⟩, fun I L T lim i R' h hv => ?_⟩
  have e : ((257, v0) :: (kA d Tt ++ [(59, 0)])) ++ R' = (257, v0) :: (kA d Tt ++ ((59, 0) :: R')) := by
    show (257, v0) :: ((kA d Tt ++ [(59, 0)]) ++ R') = _
    rw [List.append_assoc]; rfl
  rw [e] at h
  have q := l_never hla hg hs hd (by rw [hv.1]; exact ok) (by rw [hv.2.2.1]; exact q6) (by rw [hv.1]; exact hw) h hv
  have el : ((257, v0) :: (kA d Tt ++ [(59, 0)])).length = 2 + (kA d Tt).length := by
    rw [List.length_cons, List.length_append, List.length_singleton]; omega
  rw [el]
  refine q.line ?_
  have nk : mX2_nextKind 282 (hk σ I L) = some (nI 257) := at_kind h.1.1 h.1.2.1
  unfold mX2_readLine
  rw [if_pos s282, nk, obind, tsw256 (by omega), if_neg (by omega)]
  rfl
theorem LN.plea {d kc : Nat} {Tt : Tr d} (hla : isLa la) (hg : gpl σ = la) (hs : s = 268 ∨ s = 275) (hd : d ≤ 2) (ok : okT v.1 d Tt) (hkc : kc < v.2.1) (h46 : v.2.2.2.1 < 6) : LN σ X n m la s ((262, v0) :: (2, 97 + kc) :: (kA d Tt ++ [(59, 0)])) v (v.1, v.2.1, v.2.2.1, v.2.2.2.1 + 1, v.2.2.2.2) := by
  refine ⟨⟨by show 262 ≠ 0; omega, by show 262 < 1000; omega⟩, fun I L T lim i R' h hv => ?_⟩
  have e : ((262, v0) :: (2, 97 + kc) :: (kA d Tt ++ [(59, 0)])) ++ R' = (262, v0) :: (2, 97 + kc) :: (kA d Tt ++ ((59, 0) :: R')) := by
    show (262, v0) :: (2, 97 + kc) :: ((kA d Tt ++ [(59, 0)]) ++ R') = _
    rw [List.append_assoc]; rfl
  rw [e] at h
  have q := l_plea hla hg hs hd (by rw [hv.1]; exact ok) (by rw [hv.2.1]; exact hkc) (by rw [hv.2.2.2.1]; exact h46) h hv
  have el : ((262, v0) :: (2, 97 + kc) :: (kA d Tt ++ [(59, 0)])).length = 3 + (kA d Tt).length := by
    rw [List.length_cons, List.length_cons, List.length_append, List.length_singleton]; omega
  rw [el]
  refine q.line ?_
  have nk : mX2_nextKind 282 (hk σ I L) = some (nI 262) := at_kind h.1.1 h.1.2.1
  unfold mX2_readLine
  rw [if_pos s282, nk, obind, tsw256 (by omega), if_neg (by omega)]
  rfl
theorem LN.says {k f so : Nat} {NG : List (Nat × Nat)} (hla : isLa la) (hg : gpl σ = la) (hgs : gps σ = s) (hs : s = 268 ∨ s = 275) (hng : (NG = [] ∧ so = 1) ∨ (NG = [(33, 0)] ∧ so = 0)) (hk' : k < v.2.1) (hf : f < v.1) (hno : (v.2.2.2.2.2.1 k).testBit f = false) : LN σ X n m la s ((263, v0) :: (2, 97 + k) :: (NG ++ [(2, f + 1), (59, 0)])) v (v.1, v.2.1, v.2.2.1, v.2.2.2.1, v.2.2.2.2.1, updA v.2.2.2.2.2.1 k (v.2.2.2.2.2.1 k ||| 2 ^ f), v.2.2.2.2.2.2) := by
  refine ⟨⟨by show 263 ≠ 0; omega, by show 263 < 1000; omega⟩, fun I L T lim i R' h hv => ?_⟩
  have e : ((263, v0) :: (2, 97 + k) :: (NG ++ [(2, f + 1), (59, 0)])) ++ R' = (263, v0) :: (2, 97 + k) :: (NG ++ ((2, f + 1) :: (59, 0) :: R')) := by
    show (263, v0) :: (2, 97 + k) :: ((NG ++ [(2, f + 1), (59, 0)]) ++ R') = _
    rw [List.append_assoc]; rfl
  rw [e] at h
  have k5 : k < 5 := by have := h.2.1.1.2.1; rw [hv.2.1] at this; omega
  have q := l_says hla hg hgs hs hng (by rw [hv.2.1]; exact hk') (by rw [hv.1]; exact hf) (by rw [hv.2.2.2.2.2.1 k k5]; exact hno) h hv
  have el : ((263, v0) :: (2, 97 + k) :: (NG ++ [(2, f + 1), (59, 0)])).length = 4 + NG.length := by
    rw [List.length_cons, List.length_cons, List.length_append, List.length_cons, List.length_singleton]; omega
  rw [el]
  refine q.line ?_
  have nk : mX2_nextKind 282 (hk σ I L) = some (nI 263) := at_kind h.1.1 h.1.2.1
  unfold mX2_readLine
  rw [if_pos s282, nk, obind, tsw256 (by omega), if_neg (by omega)]
  rfl
theorem LN.same {x y : Nat} (hla : isLa la) (hg : gpl σ = la) (hs : s = 268 ∨ s = 275) (hx : x < v.2.1) (hy : y < v.2.1) (q : x ≠ y) (qf : (v.2.2.2.2.2.2.1 x).testBit y = false) : LN σ X n m la s [(264, v0), (2, 97 + x), (2, 97 + y), (59, 0)] v (v.1, v.2.1, v.2.2.1, v.2.2.2.1, v.2.2.2.2.1, v.2.2.2.2.2.1, updA (updA v.2.2.2.2.2.2.1 x (v.2.2.2.2.2.2.1 x ||| 2 ^ y)) y (v.2.2.2.2.2.2.1 y ||| 2 ^ x), v.2.2.2.2.2.2.2) := by
  refine ⟨⟨by show 264 ≠ 0; omega, by show 264 < 1000; omega⟩, fun I L T lim i R' h hv => ?_⟩
  have k5 : x < 5 := by have := h.2.1.1.2.1; rw [hv.2.1] at this; omega
  have q := l_same hla hg hs (by rw [hv.2.1]; exact hx) (by rw [hv.2.1]; exact hy) q (by rw [hv.2.2.2.2.2.2.1 x k5]; exact qf) h hv
  refine q.line ?_
  have nk : mX2_nextKind 282 (hk σ I L) = some (nI 264) := at_kind h.1.1 h.1.2.1
  unfold mX2_readLine
  rw [if_pos s282, nk, obind, tsw256 (by omega), if_neg (by omega)]
  rfl
theorem LN.count {w r q u1 u2 vN d : Nat} {p : Nat → Tr d} (hla : isLa la) (hg : gpl σ = la) (hgs : gps σ = s) (hs : s = 268 ∨ s = 275) (hd : d ≤ 2) (hw : w ≤ 999) (hr : r ≤ 999) (h5 : v.2.1 < 5) (hq1 : 1 ≤ q) (hq : q ≤ 4) (hok : ∀ x, x < q → okT v.1 d (p x)) : LN σ X n m la s ((258, v0) :: (2, 97 + v.2.1) :: (259, u1) :: (3, w) :: (260, u2) :: (3, r) :: (kN vN p 0 q ++ [(59, 0)])) v (v.1, v.2.1 + 1, v.2.2) := by
  refine ⟨⟨by show 258 ≠ 0; omega, by show 258 < 1000; omega⟩, fun I L T lim i R' h hv => ?_⟩
  have e : ((258, v0) :: (2, 97 + v.2.1) :: (259, u1) :: (3, w) :: (260, u2) :: (3, r) :: (kN vN p 0 q ++ [(59, 0)])) ++ R' = (258, v0) :: (2, 97 + T 2) :: (259, u1) :: (3, w) :: (260, u2) :: (3, r) :: (kN vN p 0 q ++ ((59, 0) :: R')) := by
    rw [hv.2.1]
    show (258, v0) :: (2, 97 + v.2.1) :: (259, u1) :: (3, w) :: (260, u2) :: (3, r) :: ((kN vN p 0 q ++ [(59, 0)]) ++ R') = _
    rw [List.append_assoc]; rfl
  rw [e] at h
  have q' := l_count hla hg hgs hs hd hw hr (by rw [hv.2.1]; exact h5) hq1 hq (fun x hx => by rw [hv.1]; exact hok x hx) h hv
  have el : ((258, v0) :: (2, 97 + v.2.1) :: (259, u1) :: (3, w) :: (260, u2) :: (3, r) :: (kN vN p 0 q ++ [(59, 0)])).length = 7 + (kN vN p 0 q).length := by
    simp only [List.length_cons, List.length_append, List.length_nil]; omega
  rw [el]
  refine q'.line ?_
  have nk : mX2_nextKind 282 (hk σ I L) = some (nI 258) := at_kind h.1.1 h.1.2.1
  unfold mX2_readLine
  rw [if_pos s282, nk, obind, tsw256 (by omega), if_neg (by omega)]
  rfl
end I0
