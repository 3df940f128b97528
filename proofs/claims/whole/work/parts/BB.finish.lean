section Finish
variable {σ : Sg} {I I' J J' I1 I2 I3 Ja : Nat → Nat → Int32} {L L' M M' L1 L2 : Nat → Nat → Int64} {X : Nat → Nat} {n m i i2 la off t1 t2 fl pl dp h0 N kk lim s k b j w r c : Nat} {W : Nat → List Nat} {T T' : Nat → Nat}
theorem slaw (hla : isLa la) : (hpS (hk σ I L) la).1 = 2 := by rw [hpS_hk, SH_la0 hla]
/-- what a world weighs -/
theorem cweight_ok (hla : isLa la) (h1 : I la 1 = nI (T 1)) (h8 : T 1 ≤ 8) (ho : ∀ f, f < T 1 → I (la + 1) f = nI (T (8 + f)) ∧ T (8 + f) ≤ 9) (hw : w < 256) : mX1_weightOf la (nI w) (hk σ I L) = some (nI (wt T w (T 1))) := by
  unfold mX1_weightOf mX1_weightOf_l4
  rw [if_pos (slaw hla)]
  refine lp_traj (f := fun s : Int32 × Int32 => mX1_weightOf_l4f la (nI w) (hk σ I L) s.1 s.2) (T 1) (fun f => (nI (wt T w f), nI f)) _ (fun f hf => ?_) ?_
  · obtain ⟨o1, o2⟩ := ho f hf
    show mX1_weightOf_l4f la (nI w) (hk σ I L) (nI (wt T w f)) (nI f) = _
    unfold mX1_weightOf_l4f mX1_weightOf_b43
    have at1 : mX11_at (la + 1) (nI f) (hk σ I L) = some (nI (T (8 + f))) := by rw [at_r (SH_la1 hla) (by omega) (by omega), o1]
    have ws : wt T w (f + 1) = wt T w f * (if w.testBit f = true then T (8 + f) else 10 - T (8 + f)) := rfl
    rw [gI_la hla, obind, h1, c_lt hf (by omega), has_nI (by omega) (by omega), obind, bI_if0, ws]
    cases hb : w.testBit f
    · rw [if_pos rfl, if_neg (by decide), gR_la hla, obind, RF_la_6 σ hla, at1, obind, show (10 : Int32) = nI 10 from rfl, nI_sub (by omega), pk_mul, nI_1]
    · rw [if_neg (by decide), if_pos rfl, gR_la hla, obind, RF_la_6 σ hla, at1, obind, pk_mul, nI_1]
  · show mX1_weightOf_l4f la (nI w) (hk σ I L) (nI (wt T w (T 1))) (nI (T 1)) = _
    unfold mX1_weightOf_l4f
    rw [gI_la hla, obind, h1, c_nlt (Nat.le_refl _) (by omega), xts]
theorem fin103 (hla : isLa la) (h1 : I la 1 = nI (T 1)) (h8 : T 1 ≤ 8) (ho : ∀ f, f < T 1 → I (la + 1) f = nI (T (8 + f)) ∧ T (8 + f) ≤ 9) : ∃ r, mX1_finish_l103 la 0 (hk σ I L) = some (hk σ (rowUp I (la + 10) r) L) ∧ ∀ w, w < 256 → r w = nI (wt T w (T 1)) := by
  have h0 : hk σ I L = hk σ (rowUp I (la + 10) (I (la + 10))) L := by rw [rowUp_id]
  rw [h0]
  unfold mX1_finish_l103
  obtain ⟨o, e, r, rfl, hr⟩ := lp_inv (f := fun s : Int32 × Hp => mX1_finish_l103f la s.1 s.2) 256 (fun w st => ∃ r, st = (nI w, hk σ (rowUp I (la + 10) r) L) ∧ ∀ v, v < w → r v = nI (wt T v (T 1)))
    (fun o => ∃ r, o = hk σ (rowUp I (la + 10) r) L ∧ ∀ v, v < 256 → r v = nI (wt T v (T 1)))
    (fun w st hw hQ => by
      obtain ⟨r, rfl, hr⟩ := hQ
      refine ⟨_, ?_, updA r w (nI (wt T w (T 1))), rfl, fun v hv => ?_⟩
      · show mX1_finish_l103f la (nI w) (hk σ (rowUp I (la + 10) r) L) = _
        unfold mX1_finish_l103f
        rw [if_pos (show nI w < (256 : Int32) from nI_lt (b := 256) hw (by omega)), gR_la hla, obind, RF_la_16 σ hla, cweight_ok (T := T) hla (by rw [rowUp_ne _ _ (by omega)]; exact h1) h8 (fun f hf => by rw [rowUp_ne _ _ (by omega)]; exact ho f hf) hw, obind, put_nI (n := 256) (by rw [hpS_hk]; exact SH_la10 hla) (by omega) hw, obind, setI_hk, hpI_hk', rowUp_same, rowUp_two, nI_1]
      · rw [updA_at]
        by_cases q : v = w
        · rw [if_pos q, q]
        · rw [if_neg q]; exact hr v (by omega))
    (fun st hQ => by
      obtain ⟨r, rfl, hr⟩ := hQ
      refine ⟨_, ?_, r, rfl, hr⟩
      show mX1_finish_l103f la (nI 256) (hk σ (rowUp I (la + 10) r) L) = _
      unfold mX1_finish_l103f
      rw [if_neg (show ¬ nI 256 < (256 : Int32) by decide), xts])
    (s := ((0 : Int32), hk σ (rowUp I (la + 10) (I (la + 10))) L)) ⟨_, rfl, fun v hv => absurd hv (Nat.not_lt_zero _)⟩
  exact ⟨r, e, hr⟩
/-- what is told of the class's law, ahead of its worlds -/
def LT (I : Nat → Nat → Int32) (la : Nat) (T : Nat → Nat) : Prop := I la 1 = nI (T 1) ∧ I la 2 = nI (T 2) ∧ I la 4 = nI (T 4) ∧ (∀ k, k < T 2 → I (la + 3) k = nI (T (26 + k))) ∧ ∀ p, p < T 4 → I (la + 4) p = nI (T (66 + p))
def TBs (L : Nat → Nat → Int64) (la : Nat) (T : Nat → Nat) : Prop := (∀ k, k < T 2 → ∀ i, i < T (26 + k) → Rw (L (la + 17 + 2 * (4 * k + i))) (ev T (T (31 + 4 * k + i)))) ∧ ∀ p, p < T 4 → Rw (L (la + 17 + 2 * (20 + p))) (ev T (T (72 + p)))
theorem Rw.cg {r : Nat → Int64} {f g : Nat → Bool} (h : Rw r f) (e : ∀ w, w < 256 → f w = g w) : Rw r g := fun w hw => (h w hw).trans (e w hw)
theorem cwon_ok (hla : isLa la) (h : LT I la T) (hS : SP T lim) (hB : TBs L la T) (hk' : k < T 2) : ∃ r, mX1_finishWon la (nI k) (la + 16 + 2 * (26 + k)) (hk σ I L) = some (hk σ I (rowUp L (la + 17 + 2 * (26 + k)) r)) ∧ Rw r (won T k) := by
  obtain ⟨l1, l2, l4, l3, l66⟩ := h
  obtain ⟨⟨a1, a2, a3, a4, a5, a6, a7⟩, b, c, d, ee, ff, gq, hh, w0, w01, w02⟩ := id hS
  have c3 := (c k hk').2.2.1
  obtain ⟨r0, e0, hr0⟩ := fill_ok (wTab (σ := σ) (I := I) (L := L) (i := 26 + k) hla (by omega))
  rw [setL_hk] at e0
  have l39 : ∀ r, Rw r (fun w => allB (fun i => ev T (T (31 + 4 * k + i)) w) (T (26 + k))) → ∃ r', mX1_finishWon_l39 la (nI k) (la + 16 + 2 * (26 + k)) 0 (hk σ I (rowUp L (la + 17 + 2 * (26 + k)) r)) = some (hk σ I (rowUp L (la + 17 + 2 * (26 + k)) r')) ∧ Rw r' (won T k) := fun r hr => by
    unfold mX1_finishWon_l39
    obtain ⟨o, e, r', rfl, hr'⟩ := lp_inv (f := fun s : Int32 × Hp => mX1_finishWon_l39f la (nI k) (la + 16 + 2 * (26 + k)) s.1 s.2) (T 4) (fun p st => ∃ r, st = (nI p, hk σ I (rowUp L (la + 17 + 2 * (26 + k)) r)) ∧ Rw r (fun w => allB (fun i => ev T (T (31 + 4 * k + i)) w) (T (26 + k)) && allB (fun p => !(decide (T (66 + p) = k) && ev T (T (72 + p)) w)) p))
      (fun o => ∃ r, o = hk σ I (rowUp L (la + 17 + 2 * (26 + k)) r) ∧ Rw r (won T k))
      (fun p st hp hQ => by
        obtain ⟨r, rfl, hr⟩ := hQ
        have p66 := (ee p hp).1
        have st : ∀ (o : Option ((Int32 × Hp) ⊕ Hp)), (if T (66 + p) = k then (mX1_table la ((20 : Int32) + nI p) (hk σ I (rowUp L (la + 17 + 2 * (26 + k)) r))).bind fun v10 => (mX10_minus (la + 16 + 2 * (26 + k)) v10 (hk σ I (rowUp L (la + 17 + 2 * (26 + k)) r))).bind fun h13 => mX1_finishWon_b71 la (nI k) (la + 16 + 2 * (26 + k)) (nI p) h13 else mX1_finishWon_b71 la (nI k) (la + 16 + 2 * (26 + k)) (nI p) (hk σ I (rowUp L (la + 17 + 2 * (26 + k)) r))) = o → mX1_finishWon_l39f la (nI k) (la + 16 + 2 * (26 + k)) (nI p) (hk σ I (rowUp L (la + 17 + 2 * (26 + k)) r)) = o := fun o h => by
          unfold mX1_finishWon_l39f
          rw [gI_la hla, obind, l4, c_lt hp (by omega), gR_la hla, obind, RF_la_9 σ hla, at_r (SH_la4 hla) (by omega) (by omega), obind, l66 p hp, c_eqd (by omega) (by omega)]
          exact h
        by_cases q : T (66 + p) = k
        · obtain ⟨r2, me, mr⟩ := minus_ok (h := hk σ I (rowUp L (la + 17 + 2 * (26 + k)) r)) (wTab (σ := σ) (I := I) (i := 26 + k) hla (by omega)) (wTab (σ := σ) (I := I) (i := 20 + p) hla (by omega)) (by omega) (by show Rw ((rowUp L (la + 17 + 2 * (26 + k)) r) (la + 17 + 2 * (26 + k))) _; rw [rowUp_same]; exact hr) (by show Rw ((rowUp L (la + 17 + 2 * (26 + k)) r) (la + 17 + 2 * (20 + p))) _; rw [rowUp_ne _ _ (by omega)]; exact hB.2 p hp)
          rw [setL_hk, rowUp_two] at me
          refine ⟨_, st _ ?_, r2, rfl, mr.cg fun w _ => ?_⟩
          · rw [if_pos q, show (20 : Int32) = nI 20 from rfl, nI_add, table_ok hla (by omega), obind, me, obind]
            unfold mX1_finishWon_b71
            rw [nI_1]
          · show _ = (_ && (_ && !(decide (T (66 + p) = k) && ev T (T (72 + p)) w)))
            rw [decide_eq_true q, Bool.true_and, Bool.and_assoc]
        · refine ⟨_, st _ ?_, r, rfl, hr.cg fun w _ => ?_⟩
          · rw [if_neg q]
            unfold mX1_finishWon_b71
            rw [nI_1]
          · show _ = (_ && (_ && !(decide (T (66 + p) = k) && ev T (T (72 + p)) w)))
            rw [decide_eq_false q, Bool.false_and, Bool.not_false, Bool.and_true])
      (fun st hQ => by
        obtain ⟨r, rfl, hr⟩ := hQ
        refine ⟨_, ?_, r, rfl, hr⟩
        show mX1_finishWon_l39f la (nI k) (la + 16 + 2 * (26 + k)) (nI (T 4)) (hk σ I (rowUp L (la + 17 + 2 * (26 + k)) r)) = _
        unfold mX1_finishWon_l39f
        rw [gI_la hla, obind, l4, c_nlt (Nat.le_refl _) (by omega), xts])
      (s := ((0 : Int32), hk σ I (rowUp L (la + 17 + 2 * (26 + k)) r))) ⟨r, rfl, hr.cg fun w _ => by show _ = (_ && true); rw [Bool.and_true]⟩
    exact ⟨r', e, hr'⟩
  unfold mX1_finishWon mX1_finishWon_l6
  rw [if_pos (slaw hla), e0, obind]
  obtain ⟨o, e, r', rfl, hr'⟩ := lp_inv (f := fun s : Int32 × Hp => mX1_finishWon_l6f la (nI k) (la + 16 + 2 * (26 + k)) s.1 s.2) (T (26 + k)) (fun i st => ∃ r, st = (nI i, hk σ I (rowUp L (la + 17 + 2 * (26 + k)) r)) ∧ Rw r (fun w => allB (fun i => ev T (T (31 + 4 * k + i)) w) i))
    (fun o => ∃ r, o = hk σ I (rowUp L (la + 17 + 2 * (26 + k)) r) ∧ Rw r (won T k))
    (fun i st hi hQ => by
      obtain ⟨r, rfl, hr⟩ := hQ
      obtain ⟨r2, me, mr⟩ := and_ok (h := hk σ I (rowUp L (la + 17 + 2 * (26 + k)) r)) (wTab (σ := σ) (I := I) (i := 26 + k) hla (by omega)) (wTab (σ := σ) (I := I) (i := 4 * k + i) hla (by omega)) (by omega) (by show Rw ((rowUp L (la + 17 + 2 * (26 + k)) r) (la + 17 + 2 * (26 + k))) _; rw [rowUp_same]; exact hr) (by show Rw ((rowUp L (la + 17 + 2 * (26 + k)) r) (la + 17 + 2 * (4 * k + i))) _; rw [rowUp_ne _ _ (by omega)]; exact hB.1 k hk' i hi)
      rw [setL_hk, rowUp_two] at me
      refine ⟨_, ?_, r2, rfl, mr⟩
      show mX1_finishWon_l6f la (nI k) (la + 16 + 2 * (26 + k)) (nI i) (hk σ I (rowUp L (la + 17 + 2 * (26 + k)) r)) = _
      unfold mX1_finishWon_l6f
      rw [gR_la hla, obind, RF_la_8 σ hla, at_r (SH_la3 hla) (by omega) (by omega), obind, l3 k hk', c_lt hi (by omega), needSlot_nI, obind, table_ok hla (by omega), obind, me, obind, nI_1])
    (fun st hQ => by
      obtain ⟨r, rfl, hr⟩ := hQ
      obtain ⟨r', e, hr'⟩ := l39 r hr
      refine ⟨_, ?_, r', rfl, hr'⟩
      show mX1_finishWon_l6f la (nI k) (la + 16 + 2 * (26 + k)) (nI (T (26 + k))) (hk σ I (rowUp L (la + 17 + 2 * (26 + k)) r)) = _
      unfold mX1_finishWon_l6f
      rw [gR_la hla, obind, RF_la_8 σ hla, at_r (SH_la3 hla) (by omega) (by omega), obind, l3 k hk', c_nlt (Nat.le_refl _) (by omega), e, xts])
    (s := ((0 : Int32), hk σ I (rowUp L (la + 17 + 2 * (26 + k)) r0))) ⟨r0, rfl, hr0⟩
  exact ⟨r', e, hr'⟩
/-- the worlds in which COUNTS are won, and the weights -/
theorem fin77 (hla : isLa la) (h : LT I la T) (hS : SP T lim) (hB : TBs L la T) (ho : ∀ f, f < T 1 → I (la + 1) f = nI (T (8 + f))) :
    ∃ r L', mX1_finish_l77 la 0 (hk σ I L) = some (hk σ (rowUp I (la + 10) r) L') ∧ (∀ w, w < 256 → r w = nI (wt T w (T 1))) ∧ (∀ k, k < T 2 → Rw (L' (la + 17 + 2 * (26 + k))) (won T k)) ∧ ∀ x, (x < la + 69 ∨ la + 78 ≤ x) → L' x = L x := by
  have a1 := hS.1.1
  have a2 := hS.1.2.1
  unfold mX1_finish_l77
  obtain ⟨o, e, r, L', rfl, hr⟩ := lp_inv (f := fun s : Int32 × Hp => mX1_finish_l77f la s.1 s.2) (T 2) (fun k st => ∃ L', st = (nI k, hk σ I L') ∧ (∀ x, x < k → Rw (L' (la + 17 + 2 * (26 + x))) (won T x)) ∧ ∀ x, (x < la + 69 ∨ la + 78 ≤ x) → L' x = L x)
    (fun o => ∃ r L', o = hk σ (rowUp I (la + 10) r) L' ∧ (∀ w, w < 256 → r w = nI (wt T w (T 1))) ∧ (∀ k, k < T 2 → Rw (L' (la + 17 + 2 * (26 + k))) (won T k)) ∧ ∀ x, (x < la + 69 ∨ la + 78 ≤ x) → L' x = L x)
    (fun k st hk' hQ => by
      obtain ⟨L', rfl, q1, q2⟩ := hQ
      have c3 : ∀ x, x < T 2 → T (26 + x) ≤ 4 := fun x hx => (hS.2.2.1 x hx).2.2.1
      obtain ⟨r, e, hr⟩ := cwon_ok (σ := σ) (I := I) (L := L') hla h hS ⟨fun x hx i hi => by have := c3 x hx; rw [q2 _ (by omega)]; exact hB.1 x hx i hi, fun p hp => by have := hS.1.2.2.2.1; rw [q2 _ (by omega)]; exact hB.2 p hp⟩ hk'
      refine ⟨_, ?_, rowUp L' (la + 17 + 2 * (26 + k)) r, rfl, fun x hx => ?_, fun x hx => ?_⟩
      · show mX1_finish_l77f la (nI k) (hk σ I L') = _
        unfold mX1_finish_l77f
        rw [gI_la hla, obind, h.2.1, c_lt hk' (by omega), wonBy_ok hla (by omega), obind, e, obind, nI_1]
      · by_cases q : x = k
        · rw [q, rowUp_same]; exact hr
        · rw [rowUp_ne _ _ (by omega)]; exact q1 x (by omega)
      · rw [rowUp_ne _ _ (by omega)]; exact q2 x hx)
    (fun st hQ => by
      obtain ⟨L', rfl, q1, q2⟩ := hQ
      obtain ⟨r, e, hr⟩ := fin103 (σ := σ) (L := L') hla h.1 a1 (fun f hf => ⟨ho f hf, (hS.2.1 f hf).2⟩)
      refine ⟨_, ?_, r, L', rfl, hr, q1, q2⟩
      show mX1_finish_l77f la (nI (T 2)) (hk σ I L') = _
      unfold mX1_finish_l77f
      rw [gI_la hla, obind, h.2.1, c_nlt (Nat.le_refl _) (by omega), e, xts])
    (s := ((0 : Int32), hk σ I L)) ⟨L, rfl, fun x hx => absurd hx (Nat.not_lt_zero _), fun _ _ => rfl⟩
  exact ⟨r, L', e, hr⟩
end Finish
