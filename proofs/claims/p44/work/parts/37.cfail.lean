section CF
variable {σ : Sg} {I : Nat → Nat → Int32} {L : Nat → Nat → Int64}
theorem sureW {T : Nat → Nat} {f : Nat → Bool} {e : Nat} : allB (fun w => !f w || ev T e w) 256 = sure T f e := rfl
/-- elements that are sure by a set, or meet one -/
theorem needs_go {T N : Nat → Nat} (h : CR σ I L T N) {k : Nat} (hk' : k < T 2) {a p : Nat} {f : Nat → Bool} (hw : isW (hk σ I L) a p) (hf : Rw (L p) f) :
    mX1_needsSure (gla σ) (nI k) a (hk σ I L) = some (bI (allB (fun i => sure T f (T (31 + 4 * k + i))) (T (26 + k)))) ∧
    mX1_needsMet (gla σ) (nI k) a (hk σ I L) = some (bI (allB (fun i => meets T f (T (31 + 4 * k + i))) (T (26 + k)))) := by
  obtain ⟨⟨hla, hsa, hS⟩, hW, hN, hL, hSt⟩ := id h
  have w2 := hW.1.2.2.1
  obtain ⟨_, _, b26, b31, _⟩ := hW.2.2.1 k hk'
  obtain ⟨l3, _, _, li⟩ := hL.2.2.1 k hk'
  have h0 : (hpS (hk σ I L) (gla σ)).1 = 2 := by rw [hpS_hk, SH_la0 hla]
  have rd : mX11_at (gla σ + 3) (nI k) (hk σ I L) = some (nI (T (26 + k))) := by rw [at_r (SH_la3 hla) (by omega) (by omega), l3]
  have tb : ∀ i, i < T (26 + k) → isW (hk σ I L) (gla σ + 16 + 2 * (4 * k + i)) (gla σ + 17 + 2 * (4 * k + i)) ∧ Rw (hpL (hk σ I L) (gla σ + 17 + 2 * (4 * k + i))) (ev T (T (31 + 4 * k + i))) := fun i hi => ⟨wTab hla (by omega), (li i hi).2.2⟩
  constructor
  · unfold mX1_needsSure mX1_needsSure_l2
    rw [if_pos h0]
    have := lp_all (f := fun s : Int32 => mX1_needsSure_l2f (gla σ) (nI k) a (hk σ I L) s) (T (26 + k)) (fun i => nI i) (fun i => sure T f (T (31 + 4 * k + i))) (0 : Int32) 1 (fun i hi hp => ?_) (fun i hi hp => ?_) ?_
    · rw [show (0 : Int32) = nI 0 from rfl] at this ⊢
      rw [this]
      cases allB (fun i => sure T f (T (31 + 4 * k + i))) (T (26 + k)) <;> rfl
    · show mX1_needsSure_l2f (gla σ) (nI k) a (hk σ I L) (nI i) = _
      unfold mX1_needsSure_l2f
      rw [gR_la hla, obind, RF_la_8 σ hla, rd, obind, c_lt hi (by omega), needSlot_nI, obind, table_ok hla (by omega), obind, within_ok hw (tb i hi).1 hf (tb i hi).2, obind, bI_if0]
      have hp' : allB (fun w => !f w || ev T (T (31 + 4 * k + i)) w) 256 = true := hp
      rw [hp', if_neg (by decide), nI_1]
    · show mX1_needsSure_l2f (gla σ) (nI k) a (hk σ I L) (nI i) = _
      unfold mX1_needsSure_l2f
      rw [gR_la hla, obind, RF_la_8 σ hla, rd, obind, c_lt hi (by omega), needSlot_nI, obind, table_ok hla (by omega), obind, within_ok hw (tb i hi).1 hf (tb i hi).2, obind, bI_if0]
      have hp' : allB (fun w => !f w || ev T (T (31 + 4 * k + i)) w) 256 = false := hp
      rw [hp', if_pos rfl]; rfl
    · show mX1_needsSure_l2f (gla σ) (nI k) a (hk σ I L) (nI (T (26 + k))) = _
      unfold mX1_needsSure_l2f
      rw [gR_la hla, obind, RF_la_8 σ hla, rd, obind, c_nlt (Nat.le_refl _) (by omega)]; rfl
  · unfold mX1_needsMet mX1_needsMet_l2
    rw [if_pos h0]
    have := lp_all (f := fun s : Int32 => mX1_needsMet_l2f (gla σ) (nI k) a (hk σ I L) s) (T (26 + k)) (fun i => nI i) (fun i => meets T f (T (31 + 4 * k + i))) (0 : Int32) 1 (fun i hi hp => ?_) (fun i hi hp => ?_) ?_
    · rw [show (0 : Int32) = nI 0 from rfl] at this ⊢
      rw [this]
      cases allB (fun i => meets T f (T (31 + 4 * k + i))) (T (26 + k)) <;> rfl
    · show mX1_needsMet_l2f (gla σ) (nI k) a (hk σ I L) (nI i) = _
      unfold mX1_needsMet_l2f
      rw [gR_la hla, obind, RF_la_8 σ hla, rd, obind, c_lt hi (by omega), needSlot_nI, obind, table_ok hla (by omega), obind, meets_ok hw (tb i hi).1 hf (tb i hi).2, obind, bI_if0]
      have hp' : anyB (fun w => f w && ev T (T (31 + 4 * k + i)) w) 256 = true := hp
      rw [hp', if_neg (by decide), nI_1]
    · show mX1_needsMet_l2f (gla σ) (nI k) a (hk σ I L) (nI i) = _
      unfold mX1_needsMet_l2f
      rw [gR_la hla, obind, RF_la_8 σ hla, rd, obind, c_lt hi (by omega), needSlot_nI, obind, table_ok hla (by omega), obind, meets_ok hw (tb i hi).1 hf (tb i hi).2, obind, bI_if0]
      have hp' : anyB (fun w => f w && ev T (T (31 + 4 * k + i)) w) 256 = false := hp
      rw [hp', if_pos rfl]; rfl
    · show mX1_needsMet_l2f (gla σ) (nI k) a (hk σ I L) (nI (T (26 + k))) = _
      unfold mX1_needsMet_l2f
      rw [gR_la hla, obind, RF_la_8 σ hla, rd, obind, c_nlt (Nat.le_refl _) (by omega)]; rfl
theorem barred_ok {T N : Nat → Nat} (h : CR σ I L T N) {k : Nat} (hk' : k < T 2) {a p : Nat} {f : Nat → Bool} (hw : isW (hk σ I L) a p) (hf : Rw (L p) f) :
    mX1_barred (gla σ) (nI k) a (hk σ I L) = some (bI (anyB (fun p => plq T k p && sure T f (T (72 + p))) (T 4))) := by
  obtain ⟨⟨hla, hsa, hS⟩, hW, hN, hL, hSt⟩ := id h
  obtain ⟨w0, w1, w2, w3, w4, w5, w6, w7⟩ := hW.1
  have h0 : (hpS (hk σ I L) (gla σ)).1 = 2 := by rw [hpS_hk, SH_la0 hla]
  have body : ∀ i, i < T 4 → ∀ b, (plq T k i && sure T f (T (72 + i))) = b → mX1_barred_l2f (gla σ) (nI k) a (hk σ I L) (nI i) = if b = true then some (.inr 1) else some (.inl (nI (i + 1))) := by
    intro i hi b hb
    have h1 := hW.2.2.2.1 i hi
    obtain ⟨l4, _, _, lw⟩ := hL.2.2.2.1 i hi
    unfold mX1_barred_l2f mX1_barred_b39
    rw [gI_la hla, obind, hL.1.2.2.2.1, c_lt hi (by omega), gR_la hla, obind, RF_la_9 σ hla, at_r (SH_la4 hla) (by omega) (by omega), obind, l4, c_eqd (by omega) (by omega), L20, nI_add, table_ok hla (by omega), obind, within_ok hw (wTab hla (by omega)) hf lw, obind, bI_if0, nI_1]
    subst hb
    unfold plq sure
    by_cases e : T (66 + i) = k
    · rw [if_pos e, decide_eq_true e]
      cases allB (fun w => !f w || ev T (T (72 + i)) w) 256 <;> rfl
    · rw [if_neg e, decide_eq_false e]; rfl
  unfold mX1_barred mX1_barred_l2
  rw [if_pos h0]
  have := lp_any (f := fun s : Int32 => mX1_barred_l2f (gla σ) (nI k) a (hk σ I L) s) (T 4) (fun i => nI i) (fun i => plq T k i && sure T f (T (72 + i))) (1 : Int32) 0
    (fun i hi hp => by have := body i hi _ hp; rw [if_neg (by decide)] at this; exact this) (fun i hi hp => by have := body i hi _ hp; rw [if_pos rfl] at this; exact this) (by
      show mX1_barred_l2f (gla σ) (nI k) a (hk σ I L) (nI (T 4)) = _
      unfold mX1_barred_l2f
      rw [gI_la hla, obind, hL.1.2.2.2.1, c_nlt (Nat.le_refl _) (by omega)]; rfl)
  rw [show (0 : Int32) = nI 0 from rfl] at this ⊢
  rw [this]
  cases anyB (fun p => plq T k p && sure T f (T (72 + p))) (T 4) <;> rfl
theorem leastBack_ok {T N B : Nat → Nat} (h : CR σ I L T N) {k S : Nat} (hk' : k < N 18) (hS : S < 256) (hB : ∀ o, o < k → I 432 o = nI (B o) ∧ B o < 2147483648) :
    mX11_leastBack 100 (nI k) (nI S) (hk σ I L) = some (nI (bkF B N k S k)) := by
  obtain ⟨⟨hla, hsa, hSO⟩, hW, hN, hL, hSt⟩ := id h
  have hbk := hN.bkH hW
  obtain ⟨b18, b4, bm⟩ := hbk
  have h1 := (b4 k hk').2
  unfold mX11_leastBack
  rw [if_pos s100, gSa, gR_st hsa, obind, RF_st_12 σ hsa, at_r (SH_st4 hsa) (by omega) (by omega), obind, (hSt.2 k hk').2.2.2.1]
  unfold mX11_leastBack_l18
  by_cases h0 : S = 0
  · subst h0
    rw [bkF_0]
    refine lp_inr ?_
    show mX11_leastBack_l18f 100 (nI k) (nI 0) (nI (it N k 1)) (hk σ I L) (nI (it N k 1)) (nI 0) = _
    unfold mX11_leastBack_l18f
    by_cases hk0 : 0 < k
    · rw [c_lt hk0 (by omega), if_pos (by decide), if_pos (show nI 0 = 0 from rfl)]; rfl
    · rw [c_nlt (by omega) (by omega)]; rfl
  · refine lp_traj (f := fun s : Int32 × Int32 => mX11_leastBack_l18f 100 (nI k) (nI S) (nI (it N k 1)) (hk σ I L) s.1 s.2) k (fun o => (nI (bkF B N k S o), nI o)) _ (fun o ho => ?_) ?_
    · show mX11_leastBack_l18f 100 (nI k) (nI S) (nI (it N k 1)) (hk σ I L) (nI (bkF B N k S o)) (nI o) = _
      have h2 := b4 o (by omega)
      have hand : it N o 4 &&& S < 256 := Nat.lt_of_le_of_lt Nat.and_le_right hS
      have p1 := pc_le (it N o 4 &&& S)
      have p2 := pc_le S
      have hb := bkF_le B N k S o
      obtain ⟨_, _, _, s4, s5, _⟩ := hSt.2 o (by omega)
      unfold mX11_leastBack_l18f mX11_leastBack_b97
      rw [c_lt ho (by omega), L8, c_lt (by omega) (by omega), c_0 (by omega), if_neg h0, gSa, gR_st hsa, obind, RF_st_13 σ hsa, at_r (SH_st5 hsa) (by omega) (by omega), obind, s5, nx_and, cbits_ok _ hand, obind, gSa, gR_st hsa, obind, RF_st_12 σ hsa, at_r (SH_st4 hsa) (by omega) (by omega), obind, s4, c_ltd (by omega) (by omega), cbits_ok _ hS, obind, L2, pk_mul, c_ltd (by omega) (by omega), gBks, at_r (a := 432) (n := 8) rfl (by omega) (by omega), obind, (hB o ho).1, min_d (by omega) (hB o ho).2, nI_1]
      simp only [bkF]
      by_cases c1 : it N o 1 < it N k 1
      · rw [if_pos c1]
        by_cases c2 : 2 * pc (it N o 4 &&& S) < pc S
        · rw [if_pos c2, if_neg (by omega)]
        · rw [if_neg c2, if_pos ⟨h0, c1, by omega⟩]
      · rw [if_neg c1, if_neg (fun h => c1 h.2.1)]
    · show mX11_leastBack_l18f 100 (nI k) (nI S) (nI (it N k 1)) (hk σ I L) (nI (bkF B N k S k)) (nI k) = _
      unfold mX11_leastBack_l18f
      rw [c_nlt (Nat.le_refl _) (by omega), xts]
theorem workBacks_ok {T N : Nat → Nat} (h : CR σ I L T N) {k : Nat} (hk' : k ≤ N 18) : ∃ r, mX11_workOutBacks 100 (nI k) (hk σ I L) = some (hk σ (rowUp I 432 r) L) ∧ ∀ o, o < k → r o = nI (bk N o) := by
  have hW := h.2.1
  have hbk := h.2.2.1.bkH hW
  obtain ⟨b18, b4, bm⟩ := hbk
  have h0 : hk σ I L = hk σ (rowUp I 432 (I 432)) L := by rw [rowUp_id]
  rw [h0]
  unfold mX11_workOutBacks
  rw [if_pos s100]
  unfold mX11_workOutBacks_l2
  have key := lp_inv (f := fun s : Int32 × Hp => mX11_workOutBacks_l2f 100 (nI k) s.1 s.2) k (fun i st => ∃ r, st = (nI i, hk σ (rowUp I 432 r) L) ∧ ∀ o, o < i → r o = nI (bk N o))
    (fun h' => ∃ r', h' = hk σ (rowUp I 432 r') L ∧ ∀ o, o < k → r' o = nI (bk N o))
    (fun i st hi hQ => by
      obtain ⟨r, rfl, hr⟩ := hQ
      have h2 : CR σ (rowUp I 432 r) L T N := h.upI (by omega)
      have hsa := h2.1.2.1
      have e := leastBack_ok (B := bk N) h2 (k := i) (S := it N i 4) (by omega) (b4 i (by omega)).1 (fun o ho => by
        rw [rowUp_same]
        have := bk_le N o
        have := (b4 o (by omega)).2
        exact ⟨hr o ho, by omega⟩)
      rw [← bk_eq] at e
      refine ⟨(nI (i + 1), hk σ (rowUp I 432 (updA r i (nI (bk N i)))) L), ?_, _, rfl, fun o ho => ?_⟩
      · show mX11_workOutBacks_l2f 100 (nI k) (nI i) _ = _
        unfold mX11_workOutBacks_l2f
        have hp : mX11_put 432 (nI i) (nI (bk N i)) (hk σ (rowUp I 432 r) L) = some (hk σ (rowUp I 432 (updA r i (nI (bk N i)))) L) := by
          rw [put_nI (n := 8) (h := hk σ (rowUp I 432 r) L) rfl (by omega) (by omega), setI_hk, rowUp_two, hpI_hk', rowUp_same]
        rw [c_lt hi (by omega), L8, c_lt (by omega) (by omega), gBks, gSa, gR_st hsa, obind, RF_st_13 σ hsa, at_r (SH_st5 hsa) (by omega) (by omega), obind, (h2.2.2.2.2.2 i (by omega)).2.2.2.2.1, e, obind, hp, obind, nI_1]
      · rw [updA_at]
        by_cases eo : o = i
        · rw [if_pos eo, eo]
        · rw [if_neg eo]; exact hr o (by omega))
    (fun st hQ => by
      obtain ⟨r, rfl, hr⟩ := hQ
      refine ⟨_, ?_, r, rfl, hr⟩
      show mX11_workOutBacks_l2f 100 (nI k) (nI k) _ = _
      unfold mX11_workOutBacks_l2f
      rw [c_nlt (Nat.le_refl _) (by omega)]; rfl)
    (s := (nI 0, hk σ (rowUp I 432 (I 432)) L)) ⟨_, rfl, fun o ho => absurd ho (Nat.not_lt_zero _)⟩
  obtain ⟨h', e, r', rfl, hr'⟩ := key
  exact ⟨r', e, hr'⟩
theorem age_ok {T N : Nat → Nat} (h : CR σ I L T N) {k : Nat} (hk' : k < N 18) : ∃ r, mX11_age 100 (nI k) (hk σ I L) = some (nI (it N k 3 + bk N k), hk σ (rowUp I 432 r) L) := by
  have hbk := h.2.2.1.bkH h.2.1
  obtain ⟨b18, b4, bm⟩ := hbk
  obtain ⟨r, e, hr⟩ := workBacks_ok h (k := k) (by omega)
  have h2 : CR σ (rowUp I 432 r) L T N := h.upI (by omega)
  have hsa := h2.1.2.1
  have e2 := leastBack_ok (B := bk N) h2 (k := k) (S := it N k 4) (by omega) (b4 k (by omega)).1 (fun o ho => by
    rw [rowUp_same]
    have := bk_le N o
    have := (b4 o (by omega)).2
    exact ⟨hr o ho, by omega⟩)
  rw [← bk_eq] at e2
  obtain ⟨_, _, s3, _, s5, _⟩ := h2.2.2.2.2.2 k hk'
  refine ⟨r, ?_⟩
  unfold mX11_age
  rw [if_pos s100, e, obind, gSa, gR_st hsa, obind, RF_st_11 σ hsa, at_r (SH_st3 hsa) (by omega) (by omega), obind, gSa, gR_st hsa, obind, RF_st_13 σ hsa, at_r (SH_st5 hsa) (by omega) (by omega), obind, s3, s5, e2, obind, nI_add]
theorem any_or2 (q f g : Nat → Bool) (n : Nat) : (anyB (fun p => q p && f p) n || anyB (fun p => q p && g p) n) = anyB (fun p => q p && (f p || g p)) n := by
  induction n with
  | zero => rfl
  | succ n ih =>
    simp only [anyB]
    rw [← ih]
    cases anyB (fun p => q p && f p) n <;> cases anyB (fun p => q p && g p) n <;> cases q n <;> cases f n <;> cases g n <;> rfl
/-- the left worlds stand in row 415 -/
theorem cfailing_ok {T N : Nat → Nat} (h : CR σ I L T N) {k : Nat} (hk' : k < N 18) (hlf : Rw (L 415) (lft T N)) :
    ∃ r b, mX11_failing 100 (nI k) (hk σ I L) = some (nI (fls T N k (it N k 4) (it N k 5)), hk σ (rowUp I 432 b) (rowUp L 417 r)) := by
  obtain ⟨⟨hla, hsa, hSO⟩, hW, hN, hL, hSt⟩ := id h
  obtain ⟨w0, w1, w2, w3, w4, w5, w6, w7⟩ := hW.1
  have hbk := hN.bkH hW
  obtain ⟨b18, b4, bm⟩ := hbk
  obtain ⟨a0, a1, a2, a3, a4, a5, a6, a7, _⟩ := hN.2.2.2.2.1 k hk'
  have hsk : mX11_has (I (gsa σ) 3) (nI k) = some (bI (decide (it N k 6 = 1))) := by
    have hb := bs_lt (fun k => decide (it N k 6 = 1)) (N 18)
    have hb2 := ev_lt b18
    rw [hSt.1.2.2.2.1, has_nI (by omega) (by omega), bs_bit, decide_eq_true hk', Bool.true_and]
  unfold mX11_failing fls
  rw [if_pos s100, gSa, gI_st hsa, obind, hsk, obind, bI_if0]
  by_cases hst' : it N k 6 = 1
  · refine ⟨L 417, I 432, ?_⟩
    rw [decide_eq_true hst', if_neg (by decide), if_pos hst', rowUp_id, rowUp_id]; rfl
  · rw [decide_eq_false hst', if_pos rfl, if_neg hst']
    obtain ⟨r, e, hr⟩ := allege_ok h hk'
    have h2 : CR σ I (rowUp L 417 r) T N := h.upL (by omega)
    have hag : Rw (rowUp L 417 r 417) (agr T (it N k 4) (it N k 5)) := by rw [rowUp_same]; exact hr
    have hlf2 : Rw (rowUp L 417 r 415) (lft T N) := by rw [rowUp_at, if_neg (by omega)]; exact hlf
    refine ⟨r, ?_⟩
    rw [e, obind, gAll, isEmpty_ok (wAll (σ := σ) (I := I) (L := rowUp L 417 r)) hag, obind, bI_if0]
    by_cases hempty : anyB (agr T (it N k 4) (it N k 5)) 256 = false
    · refine ⟨I 432, ?_⟩
      rw [hempty, if_neg (by decide), if_pos rfl, rowUp_id]; rfl
    · have hne : anyB (agr T (it N k 4) (it N k 5)) 256 = true := by
        cases hh : anyB (agr T (it N k 4) (it N k 5)) 256
        · exact absurd hh hempty
        · rfl
      rw [hne, if_pos (show (!true) = false from rfl), if_neg (show ¬ true = false by decide), ckind_ok h2 hk', obind, gLa, gAll, (needs_go h2 a0 wAll hag).1, obind, bI_if0]
      by_cases hs3 : allB (fun i => sure T (agr T (it N k 4) (it N k 5)) (T (31 + 4 * it N k 0 + i))) (T (26 + it N k 0)) = false
      · refine ⟨I 432, ?_⟩
        rw [if_pos hs3, if_pos hs3, rowUp_id]; rfl
      · rw [if_neg hs3, if_neg hs3, gLa, gLeft, (needs_go h2 a0 wLeft hlf2).2, obind, bI_if0]
        by_cases hs4 : allB (fun i => meets T (lft T N) (T (31 + 4 * it N k 0 + i))) (T (26 + it N k 0)) = false
        · refine ⟨I 432, ?_⟩
          rw [if_pos hs4, if_pos hs4, rowUp_id]; rfl
        · rw [if_neg hs4, if_neg hs4, gLa, gAll, barred_ok h2 a0 wAll hag, obind, bI_if0, gLa, gLeft, barred_ok h2 a0 wLeft hlf2, obind, bI_if0]
          rw [← any_or2 (plq T (it N k 0)) (fun p => sure T (agr T (it N k 4) (it N k 5)) (T (72 + p))) (fun p => sure T (lft T N) (T (72 + p)))]
          by_cases p1 : anyB (fun p => plq T (it N k 0) p && sure T (agr T (it N k 4) (it N k 5)) (T (72 + p))) (T 4) = false
          · rw [if_pos p1, p1]
            by_cases p2 : anyB (fun p => plq T (it N k 0) p && sure T (lft T N) (T (72 + p))) (T 4) = false
            · obtain ⟨b, eb⟩ := age_ok h2 hk'
              have hL5 := (h2.upI (a := 432) (r := b) (by omega)).2.2.2.1.1.2.2.2.2.1
              have hle := bk_le N k
              have hle2 := (b4 k hk').2
              refine ⟨b, ?_⟩
              rw [if_pos p2, p2, eb, b2s, gLa, gI_la hla, obind, hL5, c_ltd (by omega) (by omega), if_neg (show ¬ (false || false) = true by decide), ← bk_eq]
              by_cases hl : T 5 < it N k 3 + bk N k
              · rw [if_pos hl, if_pos hl]; rfl
              · rw [if_neg hl, if_neg hl]; rfl
            · refine ⟨I 432, ?_⟩
              have p2' : anyB (fun p => plq T (it N k 0) p && sure T (lft T N) (T (72 + p))) (T 4) = true := by simpa using p2
              rw [if_neg p2, p2', if_pos (show (false || true) = true from rfl), rowUp_id]; rfl
          · refine ⟨I 432, ?_⟩
            have p1' : anyB (fun p => plq T (it N k 0) p && sure T (agr T (it N k 4) (it N k 5)) (T (72 + p))) (T 4) = true := by simpa using p1
            rw [if_neg p1, p1', Bool.true_or, if_pos rfl, rowUp_id]; rfl
theorem cstanding_ok {T N : Nat → Nat} (h : CR σ I L T N) (hlf : Rw (L 415) (lft T N)) : ∃ r b, mX11_standing 100 (hk σ I L) = some (nI (stnd T N), hk σ (rowUp I 432 b) (rowUp L 417 r)) := by
  have hbk := h.2.2.1.bkH h.2.1
  obtain ⟨b18, b4, bm⟩ := hbk
  have h0 : hk σ I L = hk σ (rowUp I 432 (I 432)) (rowUp L 417 (L 417)) := by rw [rowUp_id, rowUp_id]
  rw [h0]
  unfold mX11_standing
  rw [if_pos s100]
  unfold mX11_standing_l4 stnd
  have hM : ∀ r b, CR σ (rowUp I 432 b) (rowUp L 417 r) T N := fun r b => (h.upI (by omega)).upL (by omega)
  have key := lp_inv (f := fun s : Int32 × Int32 × Hp => mX11_standing_l4f 100 s.1 s.2.1 s.2.2) (N 18) (fun i st => ∃ r b, st = (nI (bs (fun k => decide (fls T N k (it N k 4) (it N k 5) = 0)) i), nI i, hk σ (rowUp I 432 b) (rowUp L 417 r)))
    (fun res => ∃ r b, res = (nI (bs (fun k => decide (fls T N k (it N k 4) (it N k 5) = 0)) (N 18)), hk σ (rowUp I 432 b) (rowUp L 417 r)))
    (fun i st hi hQ => by
      obtain ⟨r, b, rfl⟩ := hQ
      obtain ⟨r', b', e⟩ := cfailing_ok (hM r b) hi (by rw [rowUp_at, if_neg (by omega)]; exact hlf)
      have ef : fls T N i (it N i 4) (it N i 5) < 7 := by unfold fls; repeat' split
                                                          all_goals omega
      rw [rowUp_two, rowUp_two] at e
      refine ⟨_, ?_, r', b', rfl⟩
      show mX11_standing_l4f 100 (nI (bs (fun k => decide (fls T N k (it N k 4) (it N k 5) = 0)) i)) (nI i) _ = _
      unfold mX11_standing_l4f mX11_standing_b29
      rw [gSa, gI_st (hM r b).1.2.1, obind, (hM r b).2.2.2.2.1.2.2.1, c_lt hi (by omega), e, b2s, c_0 (by omega), shl1 (by omega), nx_or, nI_1]
      simp only [bs]
      by_cases hz : fls T N i (it N i 4) (it N i 5) = 0
      · rw [if_pos hz, if_pos (decide_eq_true hz)]
      · rw [if_neg hz, if_neg (by simpa using hz), Nat.or_zero])
    (fun st hQ => by
      obtain ⟨r, b, rfl⟩ := hQ
      refine ⟨_, ?_, r, b, rfl⟩
      show mX11_standing_l4f 100 _ (nI (N 18)) _ = _
      unfold mX11_standing_l4f
      rw [gSa, gI_st (hM r b).1.2.1, obind, (hM r b).2.2.2.2.1.2.2.1, c_nlt (Nat.le_refl _) (by omega)]; rfl)
    (s := (nI 0, nI 0, hk σ (rowUp I 432 (I 432)) (rowUp L 417 (L 417)))) ⟨_, _, rfl⟩
  obtain ⟨res, e, r, b, rfl⟩ := key
  exact ⟨r, b, e⟩
end CF
