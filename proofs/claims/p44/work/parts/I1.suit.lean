/-! A SUIT begins, is finished, the class alone -/
def sgl (σ : Sg) (v : Nat) : Sg := (gN σ, gla σ, glb σ, gsa σ, gsb σ, v, gps σ)
def sgs (σ : Sg) (v : Nat) : Sg := (gN σ, gla σ, glb σ, gsa σ, gsb σ, gpl σ, v)
def sga (σ : Sg) (v : Nat) : Sg := (gN σ, v, glb σ, gsa σ, gsb σ, gpl σ, gps σ)
def sgb (σ : Sg) (v : Nat) : Sg := (gN σ, gla σ, v, gsa σ, gsb σ, gpl σ, gps σ)
def sgc (σ : Sg) (v : Nat) : Sg := (gN σ, gla σ, glb σ, v, gsb σ, gpl σ, gps σ)
def sgd (σ : Sg) (v : Nat) : Sg := (gN σ, gla σ, glb σ, gsa σ, v, gpl σ, gps σ)
def bgf (T : Nat → Nat) (k j : Nat) : Nat := if j = 0 then k else if j = 2 then T (16 + k) else if j = 3 then T (21 + k) else if j = 4 then T (51 + k) else if j = 5 then T (56 + k) else if j = 7 then k else 0
def bgk (T : Nat → Nat) (k : Nat) : Nat → Nat := fun i => if i = 18 then T 2 else if 19 ≤ i ∧ i < 19 + 8 * k then bgf T ((i - 19) / 8) ((i - 19) % 8) else 0
def bgN (T : Nat → Nat) : Nat → Nat := bgk T (T 2)
section I1
variable {σ : Sg} {I I' J I1 I2 I3 Ja : Nat → Nat → Int32} {L L' L1 L2 : Nat → Nat → Int64} {X : Nat → Nat} {n m i la off t1 t2 dp h0 N kk lim s v0 k k' b j w r d0 : Nat} {T T' : Nat → Nat} {R R' Rk : List (Nat × Nat)} {v v' v1 v2 : Vt}
theorem slaw (hla : isLa la) : (hpS (hk σ I L) la).1 = 2 := by rw [hpS_hk, SH_la0 hla]
/-- what a world weighs -/
theorem cweight_ok (hla : isLa la) (h1 : I la 1 = nI (T 1)) (h8 : T 1 ≤ 8) (ho : ∀ f, f < T 1 → I (la + 1) f = nI (T (8 + f)) ∧ T (8 + f) ≤ 9) (hw : w < 256) : mX1_weightOf la (nI w) (hk σ I L) = some (nI (wt T w (T 1))) := by
  unfold mX1_weightOf mX1_weightOf_l4
  rw [if_pos (slaw hla)]
  refine lp_traj (f := fun s : Int32 × Int32 => mX1_weightOf_l4f la (nI w) (hk σ I L) s.1 s.2) (T 1) (fun f => (nI (wt T w f), nI f)) _ (fun f hf => ?_) ?_
  · obtain ⟨o1, o2⟩ := ho f hf
    show mX1_weightOf_l4f la (nI w) (hk σ I L) (nI (wt T w f)) (nI f) = _
    unfold mX1_weightOf_l4f mX1_weightOf_b43
    have at1 : mX11_at (la + 1) (nI f) (hk σ I L) = some (nI (T (8 + f))) := by rw [at_r (SH_la1 hla) (by omega) (by omega), o1]
    have ws : wt T w (f + 1) = wt T w f * (if w.testBit f = true then T (8 + f) else 10 - T (8 + f)) := rfl
    rw [gI_la hla, obind, h1, c_lt hf (by omega), has_nI (by omega) (by omega), obind, bI_if0, ws]
    cases hb : w.testBit f
    · rw [if_pos rfl, if_neg (by decide), gR_la hla, obind, RF_la_6 σ hla, at1, obind, show (10 : Int32) = nI 10 from rfl, nI_sub (by omega), pk_mul, nI_1]
    · rw [if_neg (by decide), if_pos rfl, gR_la hla, obind, RF_la_6 σ hla, at1, obind, pk_mul, nI_1]
  · show mX1_weightOf_l4f la (nI w) (hk σ I L) (nI (wt T w (T 1))) (nI (T 1)) = _
    unfold mX1_weightOf_l4f
    rw [gI_la hla, obind, h1, c_nlt (Nat.le_refl _) (by omega), xts]
theorem fin103 (hla : isLa la) (h1 : I la 1 = nI (T 1)) (h8 : T 1 ≤ 8) (ho : ∀ f, f < T 1 → I (la + 1) f = nI (T (8 + f)) ∧ T (8 + f) ≤ 9) : ∃ r, mX1_finish_l103 la 0 (hk σ I L) = some (hk σ (rowUp I (la + 10) r) L) ∧ ∀ w, w < 256 → r w = nI (wt T w (T 1)) := by
  have h0 : hk σ I L = hk σ (rowUp I (la + 10) (I (la + 10))) L := by rw [rowUp_id]
  rw [h0]
  unfold mX1_finish_l103
  obtain ⟨o, e, r, rfl, hr⟩ := lp_inv (f := fun s : Int32 × Hp => mX1_finish_l103f la s.1 s.2) 256 (fun w st => ∃ r, st = (nI w, hk σ (rowUp I (la + 10) r) L) ∧ ∀ v, v < w → r v = nI (wt T v (T 1)))
    (fun o => ∃ r, o = hk σ (rowUp I (la + 10) r) L ∧ ∀ v, v < 256 → r v = nI (wt T v (T 1)))
    (fun w st hw hQ => by
      obtain ⟨r, rfl, hr⟩ := hQ
      refine ⟨_, ?_, updA r w (nI (wt T w (T 1))), rfl, fun v hv => ?_⟩
      · show mX1_finish_l103f la (nI w) (hk σ (rowUp I (la + 10) r) L) = _
        unfold mX1_finish_l103f
        rw [if_pos (show nI w < (256 : Int32) from nI_lt (b := 256) hw (by omega)), gR_la hla, obind, RF_la_16 σ hla, cweight_ok (T := T) hla (by rw [rowUp_ne _ _ (by omega)]; exact h1) h8 (fun f hf => by rw [rowUp_ne _ _ (by omega)]; exact ho f hf) hw, obind, put_nI (n := 256) (by rw [hpS_hk]; exact SH_la10 hla) (by omega) hw, obind, setI_hk, hpI_hk', rowUp_same, rowUp_two, nI_1]
      · rw [updA_at]
        by_cases q : v = w
        · rw [if_pos q, q]
        · rw [if_neg q]; exact hr v (by omega))
    (fun st hQ => by
      obtain ⟨r, rfl, hr⟩ := hQ
      refine ⟨_, ?_, r, rfl, hr⟩
      show mX1_finish_l103f la (nI 256) (hk σ (rowUp I (la + 10) r) L) = _
      unfold mX1_finish_l103f
      rw [if_neg (show ¬ nI 256 < (256 : Int32) by decide), xts])
    (s := ((0 : Int32), hk σ (rowUp I (la + 10) (I (la + 10))) L)) ⟨_, rfl, fun v hv => absurd hv (Nat.not_lt_zero _)⟩
  exact ⟨r, e, hr⟩
/-- what is told of the class's law, ahead of its worlds -/
def LT (I : Nat → Nat → Int32) (la : Nat) (T : Nat → Nat) : Prop := I la 1 = nI (T 1) ∧ I la 2 = nI (T 2) ∧ I la 4 = nI (T 4) ∧ (∀ k, k < T 2 → I (la + 3) k = nI (T (26 + k))) ∧ ∀ p, p < T 4 → I (la + 4) p = nI (T (66 + p))
def TBq (L : Nat → Nat → Int64) (la : Nat) (T : Nat → Nat) : Prop := (∀ k, k < T 2 → ∀ i, i < T (26 + k) → Rw (L (la + 17 + 2 * (4 * k + i))) (ev T (T (31 + 4 * k + i)))) ∧ ∀ p, p < T 4 → Rw (L (la + 17 + 2 * (20 + p))) (ev T (T (72 + p)))
theorem Rw.cg {r : Nat → Int64} {f g : Nat → Bool} (h : Rw r f) (e : ∀ w, w < 256 → f w = g w) : Rw r g := fun w hw => (h w hw).trans (e w hw)
theorem cwon_ok (hla : isLa la) (h : LT I la T) (hS : SP T lim) (hB : TBq L la T) (hk' : k < T 2) : ∃ r, mX1_finishWon la (nI k) (la + 16 + 2 * (26 + k)) (hk σ I L) = some (hk σ I (rowUp L (la + 17 + 2 * (26 + k)) r)) ∧ Rw r (won T k) := by
  obtain ⟨l1, l2, l4, l3, l66⟩ := h
  obtain ⟨⟨a1, a2, a3, a4, a5, a6, a7⟩, b, c, d, ee, ff, gq, hh, w0, w01, w02⟩ := id hS
  have c3 := (c k hk').2.2.1
  obtain ⟨r0, e0, hr0⟩ := fill_ok (wTab (σ := σ) (I := I) (L := L) (i := 26 + k) hla (by omega))
  rw [setL_hk] at e0
  have l39 : ∀ r, Rw r (fun w => allB (fun i => ev T (T (31 + 4 * k + i)) w) (T (26 + k))) → ∃ r', mX1_finishWon_l39 la (nI k) (la + 16 + 2 * (26 + k)) 0 (hk σ I (rowUp L (la + 17 + 2 * (26 + k)) r)) = some (hk σ I (rowUp L (la + 17 + 2 * (26 + k)) r')) ∧ Rw r' (won T k) := fun r hr => by
    unfold mX1_finishWon_l39
    obtain ⟨o, e, r', rfl, hr'⟩ := lp_inv (f := fun s : Int32 × Hp => mX1_finishWon_l39f la (nI k) (la + 16 + 2 * (26 + k)) s.1 s.2) (T 4) (fun p st => ∃ r, st = (nI p, hk σ I (rowUp L (la + 17 + 2 * (26 + k)) r)) ∧ Rw r (fun w => allB (fun i => ev T (T (31 + 4 * k + i)) w) (T (26 + k)) && allB (fun p => !(decide (T (66 + p) = k) && ev T (T (72 + p)) w)) p))
      (fun o => ∃ r, o = hk σ I (rowUp L (la + 17 + 2 * (26 + k)) r) ∧ Rw r (won T k))
      (fun p st hp hQ => by
        obtain ⟨r, rfl, hr⟩ := hQ
        have p66 := (ee p hp).1
        have st : ∀ (o : Option ((Int32 × Hp) ⊕ Hp)), (if T (66 + p) = k then (mX1_table la ((20 : Int32) + nI p) (hk σ I (rowUp L (la + 17 + 2 * (26 + k)) r))).bind fun v10 => (mX10_minus (la + 16 + 2 * (26 + k)) v10 (hk σ I (rowUp L (la + 17 + 2 * (26 + k)) r))).bind fun h13 => mX1_finishWon_b71 la (nI k) (la + 16 + 2 * (26 + k)) (nI p) h13 else mX1_finishWon_b71 la (nI k) (la + 16 + 2 * (26 + k)) (nI p) (hk σ I (rowUp L (la + 17 + 2 * (26 + k)) r))) = o → mX1_finishWon_l39f la (nI k) (la + 16 + 2 * (26 + k)) (nI p) (hk σ I (rowUp L (la + 17 + 2 * (26 + k)) r)) = o := fun o h => by
          unfold mX1_finishWon_l39f
          rw [gI_la hla, obind, l4, c_lt hp (by omega), gR_la hla, obind, RF_la_9 σ hla, at_r (SH_la4 hla) (by omega) (by omega), obind, l66 p hp, c_eqd (by omega) (by omega)]
          exact h
        by_cases q : T (66 + p) = k
        · obtain ⟨r2, me, mr⟩ := minus_ok (h := hk σ I (rowUp L (la + 17 + 2 * (26 + k)) r)) (wTab (σ := σ) (I := I) (i := 26 + k) hla (by omega)) (wTab (σ := σ) (I := I) (i := 20 + p) hla (by omega)) (by omega) (by show Rw ((rowUp L (la + 17 + 2 * (26 + k)) r) (la + 17 + 2 * (26 + k))) _; rw [rowUp_same]; exact hr) (by show Rw ((rowUp L (la + 17 + 2 * (26 + k)) r) (la + 17 + 2 * (20 + p))) _; rw [rowUp_ne _ _ (by omega)]; exact hB.2 p hp)
          rw [setL_hk, rowUp_two] at me
          refine ⟨_, st _ ?_, r2, rfl, mr.cg fun w _ => ?_⟩
          · rw [if_pos q, show (20 : Int32) = nI 20 from rfl, nI_add, table_ok hla (by omega), obind, me, obind]
            unfold mX1_finishWon_b71
            rw [nI_1]
          · show _ = (_ && (_ && !(decide (T (66 + p) = k) && ev T (T (72 + p)) w)))
            rw [decide_eq_true q, Bool.true_and, Bool.and_assoc]
        · refine ⟨_, st _ ?_, r, rfl, hr.cg fun w _ => ?_⟩
          · rw [if_neg q]
            unfold mX1_finishWon_b71
            rw [nI_1]
          · show _ = (_ && (_ && !(decide (T (66 + p) = k) && ev T (T (72 + p)) w)))
            rw [decide_eq_false q, Bool.false_and, Bool.not_false, Bool.and_true])
      (fun st hQ => by
        obtain ⟨r, rfl, hr⟩ := hQ
        refine ⟨_, ?_, r, rfl, hr⟩
        show mX1_finishWon_l39f la (nI k) (la + 16 + 2 * (26 + k)) (nI (T 4)) (hk σ I (rowUp L (la + 17 + 2 * (26 + k)) r)) = _
        unfold mX1_finishWon_l39f
        rw [gI_la hla, obind, l4, c_nlt (Nat.le_refl _) (by omega), xts])
      (s := ((0 : Int32), hk σ I (rowUp L (la + 17 + 2 * (26 + k)) r))) ⟨r, rfl, hr.cg fun w _ => by show _ = (_ && true); rw [Bool.and_true]⟩
    exact ⟨r', e, hr'⟩
  unfold mX1_finishWon mX1_finishWon_l6
  rw [if_pos (slaw hla), e0, obind]
  obtain ⟨o, e, r', rfl, hr'⟩ := lp_inv (f := fun s : Int32 × Hp => mX1_finishWon_l6f la (nI k) (la + 16 + 2 * (26 + k)) s.1 s.2) (T (26 + k)) (fun i st => ∃ r, st = (nI i, hk σ I (rowUp L (la + 17 + 2 * (26 + k)) r)) ∧ Rw r (fun w => allB (fun i => ev T (T (31 + 4 * k + i)) w) i))
    (fun o => ∃ r, o = hk σ I (rowUp L (la + 17 + 2 * (26 + k)) r) ∧ Rw r (won T k))
    (fun i st hi hQ => by
      obtain ⟨r, rfl, hr⟩ := hQ
      obtain ⟨r2, me, mr⟩ := and_ok (h := hk σ I (rowUp L (la + 17 + 2 * (26 + k)) r)) (wTab (σ := σ) (I := I) (i := 26 + k) hla (by omega)) (wTab (σ := σ) (I := I) (i := 4 * k + i) hla (by omega)) (by omega) (by show Rw ((rowUp L (la + 17 + 2 * (26 + k)) r) (la + 17 + 2 * (26 + k))) _; rw [rowUp_same]; exact hr) (by show Rw ((rowUp L (la + 17 + 2 * (26 + k)) r) (la + 17 + 2 * (4 * k + i))) _; rw [rowUp_ne _ _ (by omega)]; exact hB.1 k hk' i hi)
      rw [setL_hk, rowUp_two] at me
      refine ⟨_, ?_, r2, rfl, mr⟩
      show mX1_finishWon_l6f la (nI k) (la + 16 + 2 * (26 + k)) (nI i) (hk σ I (rowUp L (la + 17 + 2 * (26 + k)) r)) = _
      unfold mX1_finishWon_l6f
      rw [gR_la hla, obind, RF_la_8 σ hla, at_r (SH_la3 hla) (by omega) (by omega), obind, l3 k hk', c_lt hi (by omega), needSlot_nI, obind, table_ok hla (by omega), obind, me, obind, nI_1])
    (fun st hQ => by
      obtain ⟨r, rfl, hr⟩ := hQ
      obtain ⟨r', e, hr'⟩ := l39 r hr
      refine ⟨_, ?_, r', rfl, hr'⟩
      show mX1_finishWon_l6f la (nI k) (la + 16 + 2 * (26 + k)) (nI (T (26 + k))) (hk σ I (rowUp L (la + 17 + 2 * (26 + k)) r)) = _
      unfold mX1_finishWon_l6f
      rw [gR_la hla, obind, RF_la_8 σ hla, at_r (SH_la3 hla) (by omega) (by omega), obind, l3 k hk', c_nlt (Nat.le_refl _) (by omega), e, xts])
    (s := ((0 : Int32), hk σ I (rowUp L (la + 17 + 2 * (26 + k)) r0))) ⟨r0, rfl, hr0⟩
  exact ⟨r', e, hr'⟩
/-- the worlds in which COUNTS are won, and the weights -/
theorem fin77 (hla : isLa la) (h : LT I la T) (hS : SP T lim) (hB : TBq L la T) (ho : ∀ f, f < T 1 → I (la + 1) f = nI (T (8 + f))) :
    ∃ r L', mX1_finish_l77 la 0 (hk σ I L) = some (hk σ (rowUp I (la + 10) r) L') ∧ (∀ w, w < 256 → r w = nI (wt T w (T 1))) ∧ (∀ k, k < T 2 → Rw (L' (la + 17 + 2 * (26 + k))) (won T k)) ∧ ∀ x, (x < la + 69 ∨ la + 78 ≤ x) → L' x = L x := by
  have a1 := hS.1.1
  have a2 := hS.1.2.1
  unfold mX1_finish_l77
  obtain ⟨o, e, r, L', rfl, hr⟩ := lp_inv (f := fun s : Int32 × Hp => mX1_finish_l77f la s.1 s.2) (T 2) (fun k st => ∃ L', st = (nI k, hk σ I L') ∧ (∀ x, x < k → Rw (L' (la + 17 + 2 * (26 + x))) (won T x)) ∧ ∀ x, (x < la + 69 ∨ la + 78 ≤ x) → L' x = L x)
    (fun o => ∃ r L', o = hk σ (rowUp I (la + 10) r) L' ∧ (∀ w, w < 256 → r w = nI (wt T w (T 1))) ∧ (∀ k, k < T 2 → Rw (L' (la + 17 + 2 * (26 + k))) (won T k)) ∧ ∀ x, (x < la + 69 ∨ la + 78 ≤ x) → L' x = L x)
    (fun k st hk' hQ => by
      obtain ⟨L', rfl, q1, q2⟩ := hQ
      have c3 : ∀ x, x < T 2 → T (26 + x) ≤ 4 := fun x hx => (hS.2.2.1 x hx).2.2.1
      obtain ⟨r, e, hr⟩ := cwon_ok (σ := σ) (I := I) (L := L') hla h hS ⟨fun x hx i hi => by have := c3 x hx; rw [q2 _ (by omega)]; exact hB.1 x hx i hi, fun p hp => by have := hS.1.2.2.2.1; rw [q2 _ (by omega)]; exact hB.2 p hp⟩ hk'
      refine ⟨_, ?_, rowUp L' (la + 17 + 2 * (26 + k)) r, rfl, fun x hx => ?_, fun x hx => ?_⟩
      · show mX1_finish_l77f la (nI k) (hk σ I L') = _
        unfold mX1_finish_l77f
        rw [gI_la hla, obind, h.2.1, c_lt hk' (by omega), wonBy_ok hla (by omega), obind, e, obind, nI_1]
      · by_cases q : x = k
        · rw [q, rowUp_same]; exact hr
        · rw [rowUp_ne _ _ (by omega)]; exact q1 x (by omega)
      · rw [rowUp_ne _ _ (by omega)]; exact q2 x hx)
    (fun st hQ => by
      obtain ⟨L', rfl, q1, q2⟩ := hQ
      obtain ⟨r, e, hr⟩ := fin103 (σ := σ) (L := L') hla h.1 a1 (fun f hf => ⟨ho f hf, (hS.2.1 f hf).2⟩)
      refine ⟨_, ?_, r, L', rfl, hr, q1, q2⟩
      show mX1_finish_l77f la (nI (T 2)) (hk σ I L') = _
      unfold mX1_finish_l77f
      rw [gI_la hla, obind, h.2.1, c_nlt (Nat.le_refl _) (by omega), e, xts])
    (s := ((0 : Int32), hk σ I L)) ⟨L, rfl, fun x hx => absurd hx (Nat.not_lt_zero _), fun _ _ => rfl⟩
  exact ⟨r, L', e, hr⟩
theorem SP.wt (h : SP T lim) (h0 : T 0 < 1000) (h7 : T 7 ≤ 480) : WT T := by
  have t6 := h.t6
  obtain ⟨⟨a1, a2, a3, a4, a5, a6, a7⟩, b, c, d, ee, ff, gq, hh, w0, w01, w02⟩ := id h
  have p32 : (2 : Nat) ^ T 2 ≤ 2 ^ 5 := Nat.pow_le_pow_right (by omega) a2
  have p256 := ev_lt a1
  refine ⟨⟨h0, a1, a2, a3, a4, ?_, by omega, h7⟩, b, fun k hk' => ?_, ee, ff, gq, w0, by omega, ?_⟩
  · rw [a6]
    split <;> omega
  · obtain ⟨c1, c2, c3, c4, c5, c6, c7⟩ := c k hk'
    exact ⟨c1, c2, c3, c4, c5, c6, by omega⟩
  · unfold poss
    rw [decide_eq_true w01, w02]; rfl
/-- the class's tables of what is needed and pleaded, and what is behind them -/
theorem fin34 (hla : isLa la) (h : LT I la T) (hS : SP T lim) (h7 : T 7 ≤ 480) (hO : SOk L) (hc : ∀ x, x < T 7 → I (la + 7) x = nI (cc (cT T x))) (hq : ∀ q, q < 26 → sl I la T q) (ho : ∀ f, f < T 1 → I (la + 1) f = nI (T (8 + f)))
    (hk4 : ∀ k, k < T 2 → ∀ i, i < T (26 + k) → I (la + 8) (4 * k + i) = nI (T (84 + T (31 + 4 * k + i))) ∧ I (la + 9) (4 * k + i) = nI (T (117 + T (31 + 4 * k + i)))) (hp : ∀ p, p < T 4 → I (la + 8) (20 + p) = nI (T (84 + T (72 + p))) ∧ I (la + 9) (20 + p) = nI (T (117 + T (72 + p)))) :
    ∃ hh r L', mX1_finish_l34 la 108 0 (hk σ I L) = some (hk σ (rowUp (rowUp I 108 hh) (la + 10) r) L') ∧ (∀ w, w < 256 → r w = nI (wt T w (T 1))) ∧ TBq L' la T ∧ (∀ k, k < T 2 → Rw (L' (la + 17 + 2 * (26 + k))) (won T k)) ∧ ∀ x, (x < 109 ∨ 111 < x) → (x < la + 17 ∨ la + 78 ≤ x) → L' x = L x := by
  have hla' : la = 112 ∨ la = 190 := hla
  have sS := hS
  have h0 : hk σ I L = hk σ (rowUp I 108 (I 108)) L := by rw [rowUp_id]
  rw [h0]
  unfold mX1_finish_l34
  obtain ⟨o, e, hh, r, L', rfl, hr⟩ := lp_inv (f := fun s : Int32 × Hp => mX1_finish_l34f la 108 s.1 s.2) 26 (fun q st => ∃ hh L', st = (nI q, hk σ (rowUp I 108 hh) L') ∧ (∀ x, x < q → ∀ e, e < T 6 → I (la + 8) x = nI (T (84 + e)) → I (la + 9) x = nI (T (117 + e)) → Rw (L' (la + 17 + 2 * x)) (ev T e)) ∧ ∀ x, (x < 109 ∨ 111 < x) → (x < la + 17 ∨ la + 69 ≤ x) → L' x = L x)
    (fun o => ∃ hh r L', o = hk σ (rowUp (rowUp I 108 hh) (la + 10) r) L' ∧ (∀ w, w < 256 → r w = nI (wt T w (T 1))) ∧ TBq L' la T ∧ (∀ k, k < T 2 → Rw (L' (la + 17 + 2 * (26 + k))) (won T k)) ∧ ∀ x, (x < 109 ∨ 111 < x) → (x < la + 17 ∨ la + 78 ≤ x) → L' x = L x)
    (fun q st hq26 hQ => by
      obtain ⟨hh, L1, rfl, q1, q2⟩ := hQ
      obtain ⟨a, b, s1, s2, s3, s4, s5⟩ := hq q hq26
      have hO1 : SOk L1 := fun f hf => by rw [q2 2 (by omega) (by omega)]; exact hO f hf
      obtain ⟨hh', y, n', z, r, te, tr⟩ := tab_ok (σ := σ) (I := rowUp I 108 hh) (L := L1) hO1 (la + 7) (SH_la7 hla) (by omega) (cT T) a b s3 (by omega) s5 (fun j h1 h2 => by rw [rowUp_ne _ _ (by omega)]; exact hc j (by omega)) (la + 16 + 2 * q) (la + 17 + 2 * q) (fun _ _ => wTab hla (by omega)) (by omega) (by omega) (by omega) (by omega)
      have te : mX4_tabulate 108 (la + 7) (nI a) (nI b) (la + 16 + 2 * q) (hk σ (rowUp I 108 hh) L1) = some (hk σ (rowUp (rowUp I 108 hh) 108 hh') (rowUp (rowUp (rowUp (rowUp L1 (la + 17 + 2 * q) r) 109 y) 110 n') 111 z)) := te
      rw [rowUp_two] at te
      have l109 : ∀ x, x < 109 ∨ 111 < x → rowUp (rowUp (rowUp (rowUp L1 (la + 17 + 2 * q) r) 109 y) 110 n') 111 z x = rowUp L1 (la + 17 + 2 * q) r x := fun x hx => by rw [rowUp_ne _ _ (by omega), rowUp_ne _ _ (by omega), rowUp_ne _ _ (by omega)]
      refine ⟨(nI (q + 1), hk σ (rowUp I 108 hh') (rowUp (rowUp (rowUp (rowUp L1 (la + 17 + 2 * q) r) 109 y) 110 n') 111 z)), ?_, hh', rowUp (rowUp (rowUp (rowUp L1 (la + 17 + 2 * q) r) 109 y) 110 n') 111 z, rfl, fun x hx e he e1 e2 => ?_, fun x h1 h2 => ?_⟩
      · show mX1_finish_l34f la 108 (nI q) (hk σ (rowUp I 108 hh) L1) = _
        unfold mX1_finish_l34f
        rw [if_pos (show nI q < (26 : Int32) from nI_lt (b := 26) hq26 (by omega)), gR_la hla, obind, RF_la_12 σ hla, gR_la hla, obind, RF_la_14 σ hla, at_r (SH_la8 hla) (by omega) (by omega), obind, gR_la hla, obind, RF_la_15 σ hla, at_r (SH_la9 hla) (by omega) (by omega), obind, rowUp_ne _ _ (by omega), s1, rowUp_ne _ _ (by omega), s2, table_ok hla (by omega), obind, te, obind, nI_1]
      · rw [l109 _ (by omega)]
        have ew := sS.ew he
        by_cases e0 : x = q
        · subst e0
          rw [rowUp_same]
          rw [s1] at e1
          rw [s2] at e2
          have ea : a = T (84 + e) := (nI_eq (by omega) (by have := ew.1.1; omega)).mp e1
          have eb : b = T (117 + e) := (nI_eq (by omega) (by omega)).mp e2
          subst ea
          subst eb
          exact tr (by rw [ew.1.2.2]; exact Nat.le_refl _)
        · rw [rowUp_ne _ _ (by omega)]; exact q1 x (by omega) e he e1 e2
      · rw [l109 x h1, rowUp_ne _ _ (by omega)]; exact q2 x h1 h2)
    (fun st hQ => by
      obtain ⟨hh, L1, rfl, q1, q2⟩ := hQ
      have hB : TBq L1 la T := ⟨fun k hk' i hi => by
          have c3 := (sS.2.2.1 k hk').2.2
          exact q1 (4 * k + i) (by have := sS.1.2.1; omega) _ (c3.2.1 i hi) (hk4 k hk' i hi).1 (hk4 k hk' i hi).2, fun p hp' => q1 (20 + p) (by have := sS.1.2.2.2.1; omega) _ (sS.2.2.2.2.1 p hp').2 (hp p hp').1 (hp p hp').2⟩
      have hL : LT (rowUp I 108 hh) la T := by
        unfold LT at h ⊢
        rw [rowUp_ne (a := 108) (b := la) _ _ (by omega), rowUp_ne (a := 108) (b := la + 3) _ _ (by omega), rowUp_ne (a := 108) (b := la + 4) _ _ (by omega)]
        exact h
      obtain ⟨r, L', e, f1, f2, f3⟩ := fin77 (σ := σ) hla hL sS hB (fun f hf => by rw [rowUp_ne _ _ (by omega)]; exact ho f hf)
      have c4 : ∀ k, k < T 2 → T (26 + k) ≤ 4 := fun k hk' => (sS.2.2.1 k hk').2.2.1
      refine ⟨_, ?_, hh, r, L', rfl, f1, ⟨fun k hk' i hi => by have := c4 k hk'; have := sS.1.2.1; rw [f3 _ (by omega)]; exact hB.1 k hk' i hi, fun p hp' => by have := sS.1.2.2.2.1; rw [f3 _ (by omega)]; exact hB.2 p hp'⟩, f2, fun x h1 h2 => by rw [f3 x (by omega)]; exact q2 x h1 (by omega)⟩
      show mX1_finish_l34f la 108 (nI 26) (hk σ (rowUp I 108 hh) L1) = _
      unfold mX1_finish_l34f
      rw [if_neg (show ¬ nI 26 < (26 : Int32) by decide), e, xts])
    (s := ((0 : Int32), hk σ (rowUp I 108 (I 108)) L)) ⟨_, _, rfl, fun x hx => absurd hx (Nat.not_lt_zero _), fun _ _ _ => rfl⟩
  exact ⟨hh, r, L', e, hr⟩
/-- the class's law is finished -/
theorem finish_ok (hla : isLa la) (hs : s = 268 ∨ s = 275) (h : SV I L X n m la s T lim i R) :
    ∃ I' L', mX1_finish la 108 (hk σ I L) = some (hk σ I' L') ∧ CLw I' L' la T ∧ (∀ x, x ≠ 108 → x ≠ la → x ≠ la + 10 → I' x = I x) ∧ ∀ x, (x < 109 ∨ 111 < x) → (x < la + 12 ∨ la + 78 ≤ x) → L' x = L x := by
  have hla' : la = 112 ∨ la = 190 := hla
  obtain ⟨hp, hS, hD, hO⟩ := h
  have h7 : T 7 ≤ 480 := by have := hp.2.2.2.2; have := hp.1.le.2; omega
  obtain ⟨⟨d0, d3, d4, d5, dm⟩, dO, dk, ds, dp', dq, ⟨dj, d2⟩, dst⟩ := hD
  have c1 : I la 1 = nI (T 1) := hp.2.2.1.2.2.1
  have c2 : I la 2 = nI (T 2) := hp.2.2.1.2.2.2.1
  have c13 : I la 13 = nI (T 7) := by have := hp.2.2.2.1.1; rw [Nat.zero_add] at this; exact this
  have c7 : ∀ x, x < T 7 → I (la + 7) x = nI (cc (cT T x)) := fun x hx => by have := hp.2.2.2.1.2 x hx; rw [Nat.zero_add] at this; exact this
  obtain ⟨I1, hI1⟩ : ∃ I1, I1 = rowUp I la (updA (I la) 5 (nI (T 5))) := ⟨_, rfl⟩
  have ix : ∀ x, x ≠ la → I1 x = I x := fun x hx => by rw [hI1, rowUp_ne _ _ hx]
  have ik : ∀ k, k ≠ 5 → I1 la k = I la k := fun k hk' => by rw [hI1, rowUp_same, updA_ne _ _ hk']
  have i5 : I1 la 5 = nI (T 5) := by rw [hI1, rowUp_same, updA_same]
  obtain ⟨r, ke, kr⟩ := keepFirst_ok (σ := σ) (I := I1) hO (wPos hla) (by omega) dm hS.1.1
  have hO2 : SOk (rowUp L (la + 12) r) := fun f hf => by rw [rowUp_ne _ _ (by omega)]; exact hO f hf
  obtain ⟨hh, r2, L', e, f1, f2, f3, f4⟩ := fin34 (σ := σ) (I := I1) (L := rowUp L (la + 12) r) hla ⟨by rw [ik 1 (by omega)]; exact c1, by rw [ik 2 (by omega)]; exact c2, by rw [ik 4 (by omega)]; exact d4, fun k hk' => by rw [ix _ (by omega)]; exact (dk k hk').1, fun p hp' => by rw [ix _ (by omega)]; exact (dp' p hp').1⟩ hS h7 hO2 (fun x hx => by rw [ix _ (by omega)]; exact c7 x hx) (fun q hq => by
    obtain ⟨a, b, s1, s2, s3⟩ := dq q hq
    exact ⟨a, b, by rw [ix _ (by omega)]; exact s1, by rw [ix _ (by omega)]; exact s2, s3⟩) (fun f hf => by rw [ix _ (by omega)]; exact dO f hf) (fun k hk' i hi => by rw [ix _ (by omega), ix _ (by omega)]; exact (dk k hk').2.2 i hi) (fun p hp' => by rw [ix _ (by omega), ix _ (by omega)]; exact (dp' p hp').2)
  obtain ⟨I2, hI2⟩ : ∃ I2, I2 = rowUp (rowUp I1 108 hh) (la + 10) r2 := ⟨_, rfl⟩
  rw [← hI2] at e
  have jx : ∀ x, x ≠ 108 → x ≠ la + 10 → I2 x = I1 x := fun x a b => by rw [hI2, rowUp_ne _ _ b, rowUp_ne _ _ a]
  have c4 : ∀ k, k < T 2 → T (26 + k) ≤ 4 := fun k hk' => (hS.2.2.1 k hk').2.2.1
  have t2 := hS.1.2.1
  have t4 := hS.1.2.2.2.1
  refine ⟨I2, L', ?_, ⟨⟨?_, ?_, ?_, ?_, ?_, ?_⟩, fun f hf => ?_, fun k hk' => ⟨?_, ?_, f3 k hk', fun i hi => ⟨?_, ?_, f2.1 k hk' i hi⟩⟩, fun p hp' => ⟨?_, ?_, ?_, f2.2 p hp'⟩, fun x hx => ?_, fun w hw => ?_, ?_⟩, fun x a b c => by rw [jx x a c, ix x b], fun x a b => by rw [f4 x a (by omega), rowUp_ne _ _ (by omega)]⟩
  · have b18 : mX1_finish_b18 la 108 la (nI (T 5)) (hk σ I L) = some (hk σ I2 L') := by
      unfold mX1_finish_b18
      rw [sI_la hla, obind, ← hI1, gR_la hla, obind, RF_la_17 σ hla, gI_la hla, obind, ik 1 (by omega), c1, ke, obind, e]
    have l9 := hS.1.2.2.2.2.1
    unfold mX1_finish
    rw [if_pos (slaw hla), gI_la hla, obind, d5, c_0 (by omega)]
    have a6 := hS.1.2.2.2.2.2.1
    by_cases q : lim = 0
    · rw [if_pos q] at a6
      rw [a6] at b18
      rw [if_pos q]
      exact b18
    · rw [if_neg q] at a6
      rw [a6] at b18
      rw [if_neg q, obind]
      exact b18
  · rw [jx la (by omega) (by omega), ik 0 (by omega)]; exact d0
  · rw [jx la (by omega) (by omega), ik 1 (by omega)]; exact c1
  · rw [jx la (by omega) (by omega), ik 2 (by omega)]; exact c2
  · rw [jx la (by omega) (by omega), ik 4 (by omega)]; exact d4
  · rw [jx la (by omega) (by omega)]; exact i5
  · rw [jx la (by omega) (by omega), ik 13 (by omega)]; exact c13
  · rw [jx _ (by omega) (by omega), ix _ (by omega)]; exact dO f hf
  · rw [jx _ (by omega) (by omega), ix _ (by omega)]; exact (dk k hk').1
  · rw [jx _ (by omega) (by omega), ix _ (by omega)]; exact (dk k hk').2.1
  · rw [jx _ (by omega) (by omega), ix _ (by omega)]; exact ((dk k hk').2.2 i hi).1
  · rw [jx _ (by omega) (by omega), ix _ (by omega)]; exact ((dk k hk').2.2 i hi).2
  · rw [jx _ (by omega) (by omega), ix _ (by omega)]; exact (dp' p hp').1
  · rw [jx _ (by omega) (by omega), ix _ (by omega)]; exact (dp' p hp').2.1
  · rw [jx _ (by omega) (by omega), ix _ (by omega)]; exact (dp' p hp').2.2
  · rw [jx _ (by omega) (by omega), ix _ (by omega)]; exact c7 x hx
  · rw [hI2, rowUp_same]; exact f1 w hw
  · rw [f4 _ (by omega) (by omega), rowUp_same]
    exact kr.cg fun w _ => by unfold poss; rw [Bool.and_comm]
theorem up2_nq {f : Nat → Nat → Nat} {a k x b j : Nat} (h : b ≠ a ∨ j ≠ k) : up2 f a k x b j = f b j := by
  unfold up2
  rw [if_neg (by omega)]
theorem sR_gen {σ σ' : Sg} {cl k a v : Nat} (hs : (hpS (hk σ I L) a).1 = cl + 1) (hN : gN σ' = gN σ) (e1 : RF σ' a k = v) (e2 : ∀ b j, b ≠ a ∨ j ≠ k → RF σ' b j = RF σ b j) : sR cl k a v (hk σ I L) = some (hk σ' I L) := by
  unfold sR
  rw [if_pos hs]
  have : up2 (RF σ) a k v = RF σ' := by
    funext b j
    by_cases h : b = a ∧ j = k
    · obtain ⟨rfl, rfl⟩ := h
      rw [e1]; unfold up2; rw [if_pos ⟨rfl, rfl⟩]
    · rw [up2_nq (by omega), e2 b j (by omega)]
  show some (SH (gN σ), I, L, up2 (RF σ) a k v, (gN σ).2.2.1, (gN σ).2.2.2) = some (SH (gN σ'), I, L, RF σ', (gN σ').2.2.1, (gN σ').2.2.2)
  rw [this, hN]
theorem sR_l (v : Nat) : sR 2 3 282 v (hk σ I L) = some (hk (sgl σ v) I L) := sR_gen s282 rfl rfl (fun b j h => by
  unfold RF
  by_cases h1 : b = 100
  · rw [if_pos h1, if_pos h1]; rfl
  · rw [if_neg h1, if_neg h1]
    by_cases h2 : b = 282
    · rw [if_pos h2, if_pos h2, if_neg (show ¬ j = 3 by omega), if_neg (show ¬ j = 3 by omega)]; rfl
    · rw [if_neg h2, if_neg h2]; rfl)
theorem sR_s (v : Nat) : sR 2 4 282 v (hk σ I L) = some (hk (sgs σ v) I L) := sR_gen s282 rfl rfl (fun b j h => by
  unfold RF
  by_cases h1 : b = 100
  · rw [if_pos h1, if_pos h1]; rfl
  · rw [if_neg h1, if_neg h1]
    by_cases h2 : b = 282
    · rw [if_pos h2, if_pos h2, if_neg (show ¬ j = 4 by omega), if_neg (show ¬ j = 4 by omega)]; rfl
    · rw [if_neg h2, if_neg h2]; rfl)
theorem sR_a (v : Nat) : sR 11 3 100 v (hk σ I L) = some (hk (sga σ v) I L) := sR_gen s100 rfl rfl (fun b j h => by
  unfold RF
  by_cases h1 : b = 100
  · rw [if_pos h1, if_pos h1, if_neg (show ¬ j = 3 by omega), if_neg (show ¬ j = 3 by omega)]; rfl
  · rw [if_neg h1, if_neg h1]; rfl)
theorem sR_b (v : Nat) : sR 11 4 100 v (hk σ I L) = some (hk (sgb σ v) I L) := sR_gen s100 rfl rfl (fun b j h => by
  unfold RF
  by_cases h1 : b = 100
  · rw [if_pos h1, if_pos h1, if_neg (show ¬ j = 4 by omega), if_neg (show ¬ j = 4 by omega)]; rfl
  · rw [if_neg h1, if_neg h1]; rfl)
theorem sR_c (v : Nat) : sR 11 5 100 v (hk σ I L) = some (hk (sgc σ v) I L) := sR_gen s100 rfl rfl (fun b j h => by
  unfold RF
  by_cases h1 : b = 100
  · rw [if_pos h1, if_pos h1, if_neg (show ¬ j = 5 by omega), if_neg (show ¬ j = 5 by omega)]; rfl
  · rw [if_neg h1, if_neg h1]; rfl)
theorem sR_d (v : Nat) : sR 11 6 100 v (hk σ I L) = some (hk (sgd σ v) I L) := sR_gen s100 rfl rfl (fun b j h => by
  unfold RF
  by_cases h1 : b = 100
  · rw [if_pos h1, if_pos h1, if_neg (show ¬ j = 6 by omega), if_neg (show ¬ j = 6 by omega)]; rfl
  · rw [if_neg h1, if_neg h1]; rfl)
/-- a law is cleared -/
theorem clear_ok (hla : isLa la) : ∃ I' r, mX1_clear la (hk σ I L) = some (hk σ I' (rowUp L (la + 12) r)) ∧ Rw r (fun _ => true) ∧ (∀ k, (k < 6 ∨ k = 13) → I' la k = 0) ∧ (∀ k, k < 5 → I' (la + 3) k = 0 ∧ I' (la + 5) k = 0) ∧ (∀ q, q < 26 → I' (la + 8) q = 0 ∧ I' (la + 9) q = 0) ∧ ∀ x, (x < la ∨ la + 10 ≤ x) → I' x = I x := by
  obtain ⟨Ia, hIa⟩ : ∃ Ia, Ia = rowUp I la (updA (updA (updA (updA (updA (updA (updA (I la) 0 0) 1 0) 2 0) 3 0) 4 0) 5 0) 13 0) := ⟨_, rfl⟩
  obtain ⟨Ib, hIb⟩ : ∃ Ib, Ib = rowUp (rowUp (rowUp (rowUp Ia (la + 3) (fun k => if k < 5 then 0 else Ia (la + 3) k)) (la + 5) (fun k => if k < 5 then 0 else Ia (la + 5) k)) (la + 8) (fun k => if k < 26 then 0 else Ia (la + 8) k)) (la + 9) (fun k => if k < 26 then 0 else Ia (la + 9) k) := ⟨_, rfl⟩
  obtain ⟨r, fe, fr⟩ := fill_ok (wPos (σ := σ) (I := Ib) (L := L) hla)
  rw [setL_hk] at fe
  refine ⟨Ib, r, ?_, fr, fun k hk' => ?_, fun k hk' => ⟨?_, ?_⟩, fun q hq => ⟨?_, ?_⟩, fun x hx => ?_⟩
  · unfold mX1_clear
    rw [if_pos (slaw hla), sI_la hla, obind, sI_la hla, obind, rowUp_two, rowUp_same, sI_la hla, obind, rowUp_two, rowUp_same, sI_la hla, obind, rowUp_two, rowUp_same, sI_la hla, obind, rowUp_two, rowUp_same, sI_la hla, obind, rowUp_two, rowUp_same, sI_la hla, obind, rowUp_two, rowUp_same, ← hIa]
    rw [gR_la hla, obind, RF_la_8 σ hla, wipe_ok (n := 5) (by rw [hpS_hk]; exact SH_la3 hla) (by omega), obind, setI_hk, hpI_hk']
    rw [gR_la hla, obind, RF_la_10 σ hla, wipe_ok (n := 5) (by rw [hpS_hk]; exact SH_la5 hla) (by omega), obind, setI_hk, hpI_hk', rowUp_ne _ _ (show la + 5 ≠ la + 3 by omega)]
    rw [gR_la hla, obind, RF_la_14 σ hla, wipe_ok (n := 26) (by rw [hpS_hk]; exact SH_la8 hla) (by omega), obind, setI_hk, hpI_hk', rowUp_ne _ _ (show la + 8 ≠ la + 5 by omega), rowUp_ne _ _ (show la + 8 ≠ la + 3 by omega)]
    rw [gR_la hla, obind, RF_la_15 σ hla, wipe_ok (n := 26) (by rw [hpS_hk]; exact SH_la9 hla) (by omega), obind, setI_hk, hpI_hk', rowUp_ne _ _ (show la + 9 ≠ la + 8 by omega), rowUp_ne _ _ (show la + 9 ≠ la + 5 by omega), rowUp_ne _ _ (show la + 9 ≠ la + 3 by omega), ← hIb]
    rw [gR_la hla, obind, RF_la_17 σ hla, fe, obind]
  · rw [hIb, rowUp_ne _ _ (by omega), rowUp_ne _ _ (by omega), rowUp_ne _ _ (by omega), rowUp_ne _ _ (by omega), hIa, rowUp_same]
    simp only [updA_at]
    rcases (show k = 0 ∨ k = 1 ∨ k = 2 ∨ k = 3 ∨ k = 4 ∨ k = 5 ∨ k = 13 by omega) with rfl | rfl | rfl | rfl | rfl | rfl | rfl <;> rfl
  · rw [hIb, rowUp_ne _ _ (by omega), rowUp_ne _ _ (by omega), rowUp_ne _ _ (by omega), rowUp_same]
    exact if_pos hk'
  · rw [hIb, rowUp_ne _ _ (by omega), rowUp_ne _ _ (by omega), rowUp_same]
    exact if_pos hk'
  · rw [hIb, rowUp_ne _ _ (by omega), rowUp_same]
    exact if_pos hq
  · rw [hIb, rowUp_same]
    exact if_pos hq
  · rw [hIb, rowUp_ne _ _ (by omega), rowUp_ne _ _ (by omega), rowUp_ne _ _ (by omega), rowUp_ne _ _ (by omega), hIa, rowUp_ne _ _ (by omega)]
theorem sI_st (hs : isSt s) (k : Nat) (v : Int32) : sI 5 k s v (hk σ I L) = some (hk σ (rowUp I s (updA (I s) k v)) L) := by
  rw [sI_ok (sSt hs), setI_hk, hpI_hk']
/-- a state is cleared -/
theorem sclear_ok (hs : isSt s) : ∃ r, mX5_clear s (hk σ I L) = some (hk σ (rowUp I s r) L) ∧ ∀ k, k < 9 → r k = 0 := by
  refine ⟨updA (updA (updA (updA (updA (updA (updA (updA (updA (I s) 0 0) 1 0) 2 0) 3 0) 4 0) 5 0) 6 0) 7 0) 8 0, ?_, fun k hk' => ?_⟩
  · unfold mX5_clear
    rw [if_pos (sSt hs), sI_st hs, obind, sZ_ok (sSt hs) (Or.inl rfl), obind, setI_hk, hpI_hk', rowUp_two, rowUp_same, sI_st hs, obind, rowUp_two, rowUp_same, sI_st hs, obind, rowUp_two, rowUp_same, sI_st hs, obind, rowUp_two, rowUp_same, sI_st hs, obind, rowUp_two, rowUp_same, sI_st hs, obind, rowUp_two, rowUp_same, sI_st hs, obind, rowUp_two, rowUp_same, sI_st hs, obind, rowUp_two, rowUp_same]
  · simp only [updA_at]
    rcases (show k = 0 ∨ k = 1 ∨ k = 2 ∨ k = 3 ∨ k = 4 ∨ k = 5 ∨ k = 6 ∨ k = 7 ∨ k = 8 by omega) with rfl | rfl | rfl | rfl | rfl | rfl | rfl | rfl | rfl <;> rfl
/-- nothing is told -/
def T00 : Nat → Nat := fun j => if j = 5 then 300 else 0
theorem sv0_ok (hla : isLa la) (hs : s = 268 ∨ s = 275) (hc : PCk I X n m 0) (ht : TS X n m 0 R) (hO : SOk L) (h1 : ∀ k, (k < 6 ∨ k = 13) → I la k = 0) (h2 : ∀ k, k < 5 → I (la + 3) k = 0 ∧ I (la + 5) k = 0) (h3 : ∀ q, q < 26 → I (la + 8) q = 0 ∧ I (la + 9) q = 0) (hp : Rw (L (la + 12)) (fun _ => true)) (h4 : ∀ k, k < 9 → I s k = 0) : SV I L X n m la s T00 0 0 R := by
  refine ⟨⟨hc, ht, ⟨by show (0 : Nat) ≤ 8; omega, by show (0 : Nat) ≤ 5; omega, h1 1 (by omega), h1 2 (by omega), fun f hf => absurd hf (Nat.not_lt_zero _), fun k hk' => absurd hk' (Nat.not_lt_zero _)⟩, ⟨h1 13 (by omega), fun j hj => absurd hj (Nat.not_lt_zero _)⟩, Nat.le_refl _⟩, ?_, ?_, hO⟩
  · refine ⟨⟨by show (0 : Nat) ≤ 8; omega, by show (0 : Nat) ≤ 5; omega, by show (0 : Nat) ≤ 6; omega, by show (0 : Nat) ≤ 6; omega, by omega, rfl, rfl⟩, fun f hf => absurd hf (Nat.not_lt_zero _), fun k hk' => absurd hk' (Nat.not_lt_zero _), fun k _ hk' => ⟨?_, ?_, ?_⟩, fun p hp => absurd hp (Nat.not_lt_zero _), fun p hp => absurd hp (Nat.not_lt_zero _), fun p hp => absurd hp (Nat.not_lt_zero _), fun p hp => absurd hp (Nat.not_lt_zero _), 0, by show (0 : Nat) < 2 ^ 0; omega, rfl⟩
    · unfold T00; rw [if_neg (by omega)]
    · unfold T00; rw [if_neg (by omega)]
    · unfold T00; rw [if_neg (by omega)]
  · refine ⟨⟨h1 0 (by omega), h1 3 (by omega), h1 4 (by omega), h1 5 (by omega), hp⟩, fun f hf => absurd hf (Nat.not_lt_zero _), fun k hk' => absurd hk' (Nat.not_lt_zero _), fun k hk' => ?_, fun p hp => absurd hp (Nat.not_lt_zero _), fun q hq => ⟨0, 0, (h3 q hq).1, (h3 q hq).2, Nat.le_refl _, Nat.le_refl _, fun s hs => absurd hs (Nat.not_lt_zero _)⟩, ⟨fun j hj _ => h4 j hj, h4 2 (by omega)⟩, fun k hk' => absurd hk' (Nat.not_lt_zero _)⟩
    rw [(h2 k hk').2]
    unfold T00
    rw [if_neg (by omega)]
    rfl
/-- nothing is told -/
def v00 : Vt := (0, 0, 0, 0, 0, fun _ => 0, fun _ => 0, fun _ => true)
theorem vw0 : VW T00 0 v00 := ⟨rfl, rfl, rfl, rfl, rfl, fun k hk' => by show T00 (51 + k) = 0; unfold T00; rw [if_neg (by omega)], fun k hk' => by show T00 (61 + k) = 0; unfold T00; rw [if_neg (by omega)], fun w => rfl⟩
theorem bg_lo {i : Nat} (h : i < 18) : bgk T k i = 0 := by unfold bgk; rw [if_neg (by omega), if_neg (by omega)]
theorem bg_18 : bgk T k 18 = T 2 := if_pos rfl
theorem bg_at {x j : Nat} (hx : x < k) (hj : j < 8) : bgk T k (19 + 8 * x + j) = bgf T x j := by
  unfold bgk
  rw [if_neg (by omega), if_pos (by omega), show (19 + 8 * x + j - 19) / 8 = x by omega, show (19 + 8 * x + j - 19) % 8 = j by omega]
theorem bg_it {x j : Nat} (hx : x < T 2) (hj : j < 8) : it (bgN T) x j = bgf T x j := bg_at hx hj
theorem bg_kn (f : Nat) (hf : f < 8) : kn (bgN T) f = false := by
  have e : bgN T f = 0 := bg_lo (by omega)
  unfold kn
  rw [e]
  rfl
theorem bg_F : knF (bgN T) = 0 ∧ knS (bgN T) = 0 := by
  have h1 : ∀ i, i < 8 → kn (bgN T) i = (fun _ => false) i := fun i hi => bg_kn i hi
  constructor
  · unfold knF
    rw [bs_congr (q := fun _ => false) h1]
    rfl
  · unfold knS
    rw [bs_congr (q := fun _ => false) (fun i hi => by rw [bg_kn i hi]; rfl)]
    rfl
theorem bg_lft (T : Nat → Nat) (w : Nat) : lft T (bgN T) w = poss T w := by
  unfold lft agr
  rw [bg_F.1, bg_F.2, Nat.and_zero, decide_eq_true rfl, Bool.and_true]
theorem bg_EX (hW : WT T) : EX T (bgN T) := by
  obtain ⟨⟨w0, w1, w2, w3, w4, w5, w6, w7⟩, wf, wk, wp, wn, we, w, ww, wp2⟩ := id hW
  have e18 : bgN T 18 = T 2 := bg_18
  have lo : ∀ i, i < 18 → bgN T i = 0 := fun i hi => bg_lo hi
  refine ⟨⟨fun f hf => ⟨by rw [lo f (by omega)]; omega, by rw [lo (8 + f) (by omega)]; omega, fun h => by rw [lo (8 + f) (by omega)] at h; omega, fun _ => lo f (by omega)⟩, by rw [lo 16 (by omega)]; omega, by rw [lo 17 (by omega)]; omega, ⟨by rw [e18]; exact Nat.le_refl _, by rw [e18]; omega⟩, fun k hk' => ?_, w, ww, by rw [bg_lft]; exact wp2⟩, fun _ f hf => by rw [lo f (by omega)]; omega⟩
  rw [e18] at hk'
  obtain ⟨c1, c2, c3, c4, c5, c6, c7⟩ := wk k hk'
  rw [bg_it hk' (j := 0) (by omega), bg_it hk' (j := 1) (by omega), bg_it hk' (j := 2) (by omega), bg_it hk' (j := 3) (by omega), bg_it hk' (j := 4) (by omega), bg_it hk' (j := 5) (by omega), bg_it hk' (j := 6) (by omega), bg_it hk' (j := 7) (by omega)]
  show k < T 2 ∧ 0 ≤ bgN T 17 ∧ T (16 + k) ≤ 999 ∧ T (21 + k) ≤ 999 ∧ T (51 + k) < 2 ^ T 1 ∧ T (56 + k) &&& T (51 + k) = T (56 + k) ∧ 0 ≤ 1 ∧ k ≤ k ∧ it (bgN T) k 0 = k ∧ (k < T 2 → k = k ∧ k = k) ∧ (T 2 ≤ k → k < k) ∧ ∀ j, j < k → it (bgN T) j 1 ≤ 0
  refine ⟨hk', Nat.zero_le _, c1, c2, c5, c6, by omega, Nat.le_refl _, bg_it hk' (by omega), fun _ => ⟨rfl, rfl⟩, fun h => by omega, fun j hj => ?_⟩
  rw [bg_it (by omega) (by omega)]
  exact Nat.le_refl _
theorem SDr.cst (h : SDr I L la s T lim) (hs : s = 268 ∨ s = 275) (h2 : T 2 ≤ 5) : CSt I s (bgN T) := by
  obtain ⟨_, _, _, _, _, _, ⟨dj, d2⟩, dst⟩ := h
  have e18 : bgN T 18 = T 2 := bg_18
  have lo : ∀ i, i < 18 → bgN T i = 0 := fun i hi => bg_lo hi
  have z : ∀ (p : Nat → Bool) (n : Nat), (∀ i, i < n → p i = false) → nI (bs p n) = 0 := fun p n hp => by
    rw [bs_congr (q := fun _ => false) hp]
    have : ∀ n, bs (fun _ => false) n = 0 := by
      intro n
      induction n with
      | zero => rfl
      | succ n ih => show bs (fun _ => false) n ||| 0 = 0; rw [ih]; rfl
    rw [this]; rfl
  refine ⟨⟨?_, ?_, by rw [d2, e18], ?_, ?_, ?_, ?_, ?_, ?_⟩, fun k hk' => ?_⟩
  · rw [dj 0 (by omega) (by omega), lo 17 (by omega)]; rfl
  · rw [dj 1 (by omega) (by omega), lo 16 (by omega)]; rfl
  · rw [dj 3 (by omega) (by omega), e18]
    exact (z _ _ fun i hi => by rw [bg_it hi (by omega)]; rfl).symm
  · rw [dj 4 (by omega) (by omega)]
    exact (z _ _ fun i hi => by rw [lo i (by omega)]; rfl).symm
  · rw [dj 5 (by omega) (by omega)]
    exact (z _ _ fun i hi => by rw [lo i (by omega)]; rfl).symm
  · rw [dj 6 (by omega) (by omega)]
    exact (z _ _ fun i hi => by rw [lo i (by omega)]; rfl).symm
  · rw [dj 7 (by omega) (by omega)]
    exact (z _ _ fun i hi => by rw [lo i (by omega)]; rfl).symm
  · rw [dj 8 (by omega) (by omega), bg_F.2]; rfl
  · rw [e18] at hk'
    rw [bg_it hk' (j := 0) (by omega), bg_it hk' (j := 1) (by omega), bg_it hk' (j := 2) (by omega), bg_it hk' (j := 3) (by omega), bg_it hk' (j := 4) (by omega), bg_it hk' (j := 5) (by omega)]
    obtain ⟨g1, g2, g3, g4, g5, g6⟩ := dst k hk'
    exact ⟨g1, g2, g3, g4, g5, g6⟩
theorem CLw.eq2 (hla : isLa la) (hW : WT T) (h6 : CLw I L la T) (hn : ∀ j, j < 78 → I' (la + j) = I (la + j)) (hl : ∀ j, j < 78 → L' (la + j) = L (la + j)) : CLw I' L' la T := by
  have hn0 : I' la = I la := hn 0 (by omega)
  have hl2 : ∀ j, j < 61 → L' (la + 17 + j) = L (la + 17 + j) := fun j hj => by have := hl (17 + j) (by omega); rw [← Nat.add_assoc] at this; exact this
  obtain ⟨b1, b2, b3, b4, b5, b6, b7⟩ := h6
  have w2 := hW.1.2.2.1
  have w4 := hW.1.2.2.2.2.1
  refine ⟨by rw [hn0]; exact b1, fun i hi => by rw [hn 1 (by omega)]; exact b2 i hi, fun k hk' => ?_, fun p hp => ?_, fun i hi => by rw [hn 7 (by omega)]; exact b5 i hi, fun i hi => by rw [hn 10 (by omega)]; exact b6 i hi, by rw [hl 12 (by omega)]; exact b7⟩
  · obtain ⟨c1, c2, c3, c4⟩ := b3 k hk'
    have b26 := (hW.2.2.1 k hk').2.2.1
    refine ⟨by rw [hn 3 (by omega)]; exact c1, by rw [hn 6 (by omega)]; exact c2, by rw [hl2 _ (by omega)]; exact c3, fun i hi => ?_⟩
    obtain ⟨d1, d2, d3⟩ := c4 i hi
    exact ⟨by rw [hn 8 (by omega)]; exact d1, by rw [hn 9 (by omega)]; exact d2, by rw [hl2 _ (by omega)]; exact d3⟩
  · obtain ⟨c1, c2, c3, c4⟩ := b4 p hp
    exact ⟨by rw [hn 4 (by omega)]; exact c1, by rw [hn 8 (by omega)]; exact c2, by rw [hn 9 (by omega)]; exact c3, by rw [hl2 _ (by omega)]; exact c4⟩
theorem cpre_ok (hX : TC I X n) (hR : RS I) (hla : isLa la) (hs : s = 268 ∨ s = 275) (hO : SOk L) :
    ∃ m I1 I5 L5, mX8_split 103 101 (hk σ I L) = some (hk σ I1 L) ∧ mX2_readSuit 282 la s (hk σ (rowUp I1 101 (updA (I1 101) 1 0)) L) = mX2_readSuit_l26 282 0 (hk (sgs (sgl σ la) s) I5 L5) ∧ PCk I5 X n m 0 ∧ (∀ k, (k < 6 ∨ k = 13) → I5 la k = 0) ∧ (∀ k, k < 5 → I5 (la + 3) k = 0 ∧ I5 (la + 5) k = 0) ∧ (∀ q, q < 26 → I5 (la + 8) q = 0 ∧ I5 (la + 9) q = 0) ∧ Rw (L5 (la + 12)) (fun _ => true) ∧ (∀ k, k < 9 → I5 s k = 0) ∧ I5 101 1 = 0 ∧ SOk L5 ∧
      (∀ x, x ≠ 101 → (x < 103 ∨ 106 < x) → x ≠ 282 → (x < la ∨ la + 78 ≤ x) → (x < s ∨ s + 7 ≤ x) → I5 x = I x) ∧ ∀ x, x ≠ la + 12 → L5 x = L x := by
  have hla' : la = 112 ∨ la = 190 := hla
  have hst : isSt s := by unfold isSt; omega
  obtain ⟨m, I1, se, hm, hTK, hpz, hlt, hTF⟩ := split_ok (σ := σ) (L := L) (X := X) (n := n) hX hR
  obtain ⟨I3, hI3⟩ : ∃ I3, I3 = rowUp (rowUp I1 101 (updA (I1 101) 1 0)) 282 (updA (updA (I1 282) 5 0) 7 0) := ⟨_, rfl⟩
  obtain ⟨I4, r4, ce, c1, c2, c3, c4, c5⟩ := clear_ok (σ := sgs (sgl σ la) s) (I := I3) (L := L) hla
  obtain ⟨r5, de, d1⟩ := sclear_ok (σ := sgs (sgl σ la) s) (I := I4) (L := rowUp L (la + 12) r4) hst
  have i3 : ∀ x, x ≠ 101 → x ≠ 282 → I3 x = I1 x := fun x a b => by rw [hI3, rowUp_ne _ _ b, rowUp_ne _ _ a]
  have i5 : ∀ x, (x < la ∨ la + 78 ≤ x) → x ≠ s → rowUp I4 s r5 x = I3 x := fun x a b => by rw [rowUp_ne _ _ b, c5 x (by omega)]
  have i1 : ∀ x, (x < 103 ∨ 106 < x) → I1 x = I x := fun x hx => by
    by_cases q : x = 107
    · rw [q]; exact hTF.1
    · exact hTF.2 x (by omega)
  refine ⟨m, I1, rowUp I4 s r5, rowUp L (la + 12) r4, se, ?_, ⟨⟨hX.1, by rw [i5 282 (by omega) (by omega), hI3, rowUp_same, updA_same]⟩, hm, ⟨by rw [i5 103 (by omega) (by omega), i3 103 (by omega) (by omega)]; exact hTK.1, fun j hj => by rw [i5 104 (by omega) (by omega), i3 104 (by omega) (by omega), i5 105 (by omega) (by omega), i3 105 (by omega) (by omega), i5 106 (by omega) (by omega), i3 106 (by omega) (by omega)]; exact hTK.2 j hj⟩, hpz, hlt, by rw [i5 282 (by omega) (by omega), hI3, rowUp_same, updA_ne _ _ (by omega), updA_same]; rfl, Nat.zero_le _⟩, fun k hk' => by rw [rowUp_ne _ _ (by omega)]; exact c2 k hk', fun k hk' => by rw [rowUp_ne _ _ (by omega), rowUp_ne _ _ (by omega)]; exact c3 k hk', fun q hq => by rw [rowUp_ne _ _ (by omega), rowUp_ne _ _ (by omega)]; exact c4 q hq, by rw [rowUp_same]; exact c1, fun k hk' => by rw [rowUp_same]; exact d1 k hk', by rw [i5 101 (by omega) (by omega), hI3, rowUp_ne _ _ (by omega), rowUp_same, updA_same], fun f hf => by rw [rowUp_ne _ _ (by omega)]; exact hO f hf, fun x a b c d e => by rw [i5 x d (by omega), i3 x a c, i1 x b], fun x hx => rowUp_ne _ _ hx⟩
  unfold mX2_readSuit mX2_begin
  rw [if_pos s282, if_pos s282, sR_l, obind, sI_ok s282, obind, setI_hk, hpI_hk', rowUp_ne (a := 101) (b := 282) _ _ (by omega), sI_ok s282, obind, setI_hk, hpI_hk', rowUp_two, rowUp_same, obind, ← hI3, sR_s, obind, gDr, show gpl (sgs (sgl σ la) s) = la from rfl, ce, obind, gDs, show gps (sgs (sgl σ la) s) = s from rfl, de, obind]
end I1
