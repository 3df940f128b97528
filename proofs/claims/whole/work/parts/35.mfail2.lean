section MF2
variable {σ : Sg} {I : Nat → Nat → Int32} {L : Nat → Nat → Int64}
/-- the reference's rows of what is told and now, and its tables -/
def MI (I : Nat → Nat → Int32) (T N : Nat → Nat) : Prop := rT I T ∧ rN I N ∧ WT T ∧ WN T N ∧ mTab I T N
theorem WN.bkH {T N : Nat → Nat} (hW : WT T) (h : WN T N) : bkH N := by
  obtain ⟨_, _, h17, h18, hk', _⟩ := h
  have h256 := ev_lt hW.1.2.1
  refine ⟨h18.2, fun o ho => ?_, fun k o h1 h2 => ?_⟩
  · obtain ⟨_, a1, _, _, a4, _⟩ := hk' o ho
    omega
  · by_cases e : k = o
    · subst e; exact Nat.le_refl _
    · exact (hk' o h2).2.2.2.2.2.2.2.2.2.2.2 k (by omega)
theorem MI.up {T N : Nat → Nat} {a : Nat} {r : Nat → Int32} (h : MI I T N) (h1 : a ≠ 434) (h2 : a ≠ 438) (h3 : a < 444 ∨ 447 < a) : MI (rowUp I a r) T N := by
  obtain ⟨m1, m2, m3, m4, m5, m6, m7, m8⟩ := h
  refine ⟨fun i hi => ?_, fun i hi => ?_, m3, m4, ?_, fun e he => ?_, fun k hk' => ?_, ?_⟩
  · rw [rowUp_at, if_neg (fun e => h1 e.symm)]; exact m1 i hi
  · rw [rowUp_at, if_neg (fun e => h2 e.symm)]; exact m2 i hi
  · rw [rowUp_at, if_neg (by omega)]; exact m5
  · rw [rowUp_at, if_neg (by omega)]; exact m6 e he
  · rw [rowUp_at, if_neg (by omega)]; exact m7 k hk'
  · rw [rowUp_at, if_neg (by omega)]; exact m8
theorem lft_lt {T N : Nat → Nat} {w : Nat} (h : lft T N w = true) : w < 2 ^ T 1 := agr_lt h
theorem mSureA {T N : Nat → Nat} (h : MI I T N) {a e : Nat} {f : Nat → Bool} (hs : SH (gN σ) a = (50, 8)) (hf : Rm (I a) 0 f) (hl : ∀ w, f w = true → w < 2 ^ T 1) (he : e < T 6) : mX12_isSure 433 a (nI e) (hk σ I L) = some (bI (sure T f e)) := by
  have h6 := h.2.2.1.1.2.2.2.2.2.2.1
  rw [isSure_ok hs (by omega) (by omega) hf (by omega) (h.2.2.2.2.2.1 e he), sure_lt hl]
theorem c_1 {α : Type} {i : Nat} {A B : α} (hi : i < 2 ^ 31) : (if nI i = 1 then A else B) = (if i = 1 then A else B) := c_eqd (n := 1) hi (by omega)
theorem bI_if0 {α : Type} (b : Bool) (A B : α) : (if bI b = 0 then A else B) = if b = false then A else B := by cases b <;> rfl
theorem mfailsBy_ok {T N : Nat → Nat} (h : MI I T N) {k S So : Nat} (hk' : k < N 18) (hS : S < 256) (hSo : So < 256) (hB : ∀ o, o < N 18 → I 449 o = nI (bk N o)) :
    ∃ r, mX12_failsBy 433 (nI k) (nI S) (nI So) (hk σ I L) = some (nI (fls T N k S So), hk σ (rowUp I 448 r) L) := by
  obtain ⟨hT, hN, hW, hWN, ht⟩ := id h
  have hbk := hWN.bkH hW
  obtain ⟨⟨w0, w1, w2, w3, w4, w5, w6, w7⟩, wf, wk, wp, wn, we, wp2⟩ := id hW
  obtain ⟨n1, n16, n17, n18, nk, nw⟩ := id hWN
  obtain ⟨a0, a1, a2, a3, a4, a5, a6, a7, a8, a9, a10, a11⟩ := nk k hk'
  obtain ⟨b16, b21, b26, b31, _⟩ := wk _ a0
  unfold mX12_failsBy fls
  rw [if_pos s433, L6, its_n hN (by omega) (by omega), obind, c_1 (by omega)]
  by_cases hst' : it N k 6 = 1
  · refine ⟨I 448, ?_⟩
    rw [if_pos hst', if_pos hst', rowUp_id]; rfl
  · rw [if_neg hst', if_neg hst', show gR 12 28 433 (hk σ I L) = some 448 from rfl, obind]
    obtain ⟨r, e, hr⟩ := laysAgreed_ok (σ := σ) (I := I) (L := L) (a := 448) (c := poss T) rfl (by decide) hS hSo ht.1
    have hr' : Rm r 0 (agr T S So) := hr
    have h2 : MI (rowUp I 448 r) T N := h.up (by decide) (by decide) (by omega)
    have hT2 := h2.1
    have hN2 := h2.2.1
    have hag : Rm (rowUp I 448 r 448) 0 (agr T S So) := by rw [rowUp_same]; exact hr'
    have hlf : Rm (rowUp I 448 r 447) 0 (lft T N) := h2.2.2.2.2.2.2.2
    have hB2 : ∀ o, o < N 18 → rowUp I 448 r 449 o = nI (bk N o) ∧ bk N o < 2147483648 := fun o ho => by
      rw [rowUp_at, if_neg (by omega)]
      have := bk_le N o
      have := (hbk.2.1 o ho).2
      exact ⟨hB o ho, by omega⟩
    rw [e, obind, show ∀ I, gR 12 28 433 (hk σ I L) = some 448 from fun _ => rfl, obind, many_ok (a := 448) (n := 8) rfl (by omega) (by omega) hag, obind]
    have c256 := cntB_le (agr T S So) 256
    rw [c_0 (by omega)]
    by_cases hempty : anyB (agr T S So) 256 = false
    · refine ⟨r, ?_⟩
      rw [if_pos (cntB_0.mpr hempty), if_pos hempty]; rfl
    · rw [if_neg (fun z => hempty (cntB_0.mp z)), if_neg hempty]
      refine ⟨r, ?_⟩
      have pleas : mX12_failsBy_l144 433 (nI k) (nI S) 0 (hk σ (rowUp I 448 r) L) = some (nI (if anyB (fun p => plq T (it N k 0) p && (sure T (agr T S So) (T (72 + p)) || sure T (lft T N) (T (72 + p)))) (T 4) = true then 5 else if T 5 < it N k 3 + bkF (bk N) N k S k then 6 else 0), hk σ (rowUp I 448 r) L) := by
        unfold mX12_failsBy_l144
        have hbars := mbars_ok (σ := σ) (L := L) hT2 hN2 w4 (fun p hp => ⟨by have := (wp p hp).1; omega, by have := (wp p hp).2; omega⟩) (k := k) (by omega) (by omega)
        have hle := cntB_le (plq T (it N k 0)) (T 4)
        have hbar : ∀ i, i < cntB (plq T (it N k 0)) (T 4) → ∃ p, ith (plq T (it N k 0)) (T 4) i = some p ∧ p < T 4 ∧ mX12_barOf 433 (nI k) (nI i) (hk σ (rowUp I 448 r) L) = some (nI (T (72 + p))) := fun i hi => by
          have hq := mbarOf_ok (σ := σ) (L := L) hT2 hN2 w4 (fun p hp => by have := (wp p hp).1; omega) (k := k) (i := i) (by omega) (by omega) (by omega)
          cases hi' : ith (plq T (it N k 0)) (T 4) i with
          | none => have := ith_none.mp hi'; omega
          | some p =>
            rw [hi'] at hq
            exact ⟨p, rfl, (fstB_some.mp hi').1, hq⟩
        have body : ∀ i, i < cntB (plq T (it N k 0)) (T 4) → ∀ b, mI (ith (plq T (it N k 0)) (T 4) i) (fun p => sure T (agr T S So) (T (72 + p)) || sure T (lft T N) (T (72 + p))) = b →
            mX12_failsBy_l144f 433 (nI k) (nI S) (hk σ (rowUp I 448 r) L) (nI i) = if b = true then some (.inr (5, hk σ (rowUp I 448 r) L)) else some (.inl (nI (i + 1))) := by
          intro i hi b hb
          obtain ⟨p, hp, hp4, e1⟩ := hbar i hi
          rw [hp, mI_some] at hb
          have s1 := mSureA (σ := σ) (L := L) h2 (a := 448) rfl hag (fun w hw => agr_lt hw) (wp p hp4).2
          have s2 := mSureA (σ := σ) (L := L) h2 (a := 447) rfl hlf (fun w hw => lft_lt hw) (wp p hp4).2
          unfold mX12_failsBy_l144f
          rw [hbars, obind, c_lt hi (by omega), show gR 12 28 433 (hk σ (rowUp I 448 r) L) = some 448 from rfl, obind, e1, obind, s1, obind, bI_if0, show gR 12 27 433 (hk σ (rowUp I 448 r) L) = some 447 from rfl, obind, obind, s2, obind, bI_if0, nI_1]
          subst hb
          cases sure T (agr T S So) (T (72 + p)) <;> cases sure T (lft T N) (T (72 + p)) <;> rfl
        have key := lp_any (f := fun s : Int32 => mX12_failsBy_l144f 433 (nI k) (nI S) (hk σ (rowUp I 448 r) L) s) (cntB (plq T (it N k 0)) (T 4)) (fun i => nI i) (fun i => mI (ith (plq T (it N k 0)) (T 4) i) (fun p => sure T (agr T S So) (T (72 + p)) || sure T (lft T N) (T (72 + p)))) ((5 : Int32), hk σ (rowUp I 448 r) L) (nI (if T 5 < it N k 3 + bkF (bk N) N k S k then 6 else 0), hk σ (rowUp I 448 r) L)
          (fun i hi hp => by have := body i hi _ hp; rw [if_neg (by decide)] at this; exact this) (fun i hi hp => by have := body i hi _ hp; rw [if_pos rfl] at this; exact this) (by
            show mX12_failsBy_l144f 433 (nI k) (nI S) (hk σ (rowUp I 448 r) L) (nI (cntB (plq T (it N k 0)) (T 4))) = _
            have hbb := mbackBy_ok (σ := σ) (L := L) (B := bk N) hN2 hbk.1 hbk.2.1 hk' hS hB2
            have hcut := bkF_cut (B := bk N) (N := N) (k := k) (S := S) (m := N 18) (by omega) (fun o h1 h2 => hbk.2.2 k o h1 h2)
            rw [hcut] at hbb
            have hle2 := bkF_le (bk N) N k S k
            unfold mX12_failsBy_l144f
            rw [hbars, obind, c_nlt (Nat.le_refl _) (by omega), L3, its_n hN2 (by omega) (by omega), obind, hbb, obind, g434, L5, ldT hT2 (by omega), obind, nI_add, c_ltd (by omega) (by omega)]
            by_cases hl : T 5 < it N k 3 + bkF (bk N) N k S k
            · rw [if_pos hl, if_pos hl]; rfl
            · rw [if_neg hl, if_neg hl]; rfl)
        rw [show (0 : Int32) = nI 0 from rfl, key, ith_any]
        by_cases hany : anyB (fun p => plq T (it N k 0) p && (sure T (agr T S So) (T (72 + p)) || sure T (lft T N) (T (72 + p)))) (T 4) = true
        · rw [if_pos hany, if_pos hany]; rfl
        · rw [if_neg hany, if_neg hany]
      unfold mX12_failsBy_l44
      refine lp_traj (f := fun s : Int32 × Int32 × Int32 => mX12_failsBy_l44f 433 (nI k) (nI S) (hk σ (rowUp I 448 r) L) s.1 s.2.1 s.2.2) (T (26 + it N k 0)) (fun i => (bI (!allB (fun i => sure T (agr T S So) (T (31 + 4 * it N k 0 + i))) i), bI (!allB (fun i => meets T (lft T N) (T (31 + 4 * it N k 0 + i))) i), nI i)) _ (fun i hi => ?_) ?_
      · show mX12_failsBy_l44f 433 (nI k) (nI S) (hk σ (rowUp I 448 r) L) (bI (!allB (fun i => sure T (agr T S So) (T (31 + 4 * it N k 0 + i))) i)) (bI (!allB (fun i => meets T (lft T N) (T (31 + 4 * it N k 0 + i))) i)) (nI i) = _
        have hne := b31 i hi
        have s1 := mSureA (σ := σ) (L := L) h2 (a := 448) rfl hag (fun w hw => agr_lt hw) hne
        have s2 := holdsIn_ok (σ := σ) (I := rowUp I 448 r) (L := L) (a := 447) (n := 8) rfl (by omega) (by omega) hlf (show T (31 + 4 * it N k 0 + i) < 32 by omega) (h2.2.2.2.2.2.1 _ hne)
        have l256 := cntB_le (fun w => lft T N w && (decide (w < 2 ^ T 1) && ev T (T (31 + 4 * it N k 0 + i)) w)) 256
        have m1 := meets_lt (T := T) (f := lft T N) (e := T (31 + 4 * it N k 0 + i)) (fun w hw => lft_lt hw)
        unfold mX12_failsBy_l44f mX12_failsBy_b77 mX12_failsBy_b82 mX12_failsBy_b107 mX12_failsBy_b112
        rw [mneeds_ok hT2 hN2 (by omega) (by omega), obind, c_lt hi (by omega), bI_if0, show gR 12 28 433 (hk σ (rowUp I 448 r) L) = some 448 from rfl, obind, mneed_ok hT2 hN2 (by omega) (by omega) (by omega), obind, s1, obind, bI_if0]
        simp only [bI_if0, show gR 12 27 433 (hk σ (rowUp I 448 r) L) = some 447 from rfl, obind, s2, nI_1, allB]
        have z : ∀ (A B : Option ((Int32 × Int32 × Int32) ⊕ (Int32 × Hp))), (if nI (cntB (fun w => lft T N w && (decide (w < 2 ^ T 1) && ev T (T (31 + 4 * it N k 0 + i)) w)) 256) = 0 then A else B) = if meets T (lft T N) (T (31 + 4 * it N k 0 + i)) = false then A else B := fun A B => by
          rw [c_0 (by omega)]
          by_cases hz : cntB (fun w => lft T N w && (decide (w < 2 ^ T 1) && ev T (T (31 + 4 * it N k 0 + i)) w)) 256 = 0
          · rw [if_pos hz, if_pos (m1.mp hz)]
          · rw [if_neg hz, if_neg (fun q => hz (m1.mpr q))]
        simp only [z]
        cases allB (fun i => sure T (agr T S So) (T (31 + 4 * it N k 0 + i))) i <;> cases allB (fun i => meets T (lft T N) (T (31 + 4 * it N k 0 + i))) i <;> cases sure T (agr T S So) (T (31 + 4 * it N k 0 + i)) <;> cases meets T (lft T N) (T (31 + 4 * it N k 0 + i)) <;> rfl
      · show mX12_failsBy_l44f 433 (nI k) (nI S) (hk σ (rowUp I 448 r) L) (bI (!allB (fun i => sure T (agr T S So) (T (31 + 4 * it N k 0 + i))) (T (26 + it N k 0)))) (bI (!allB (fun i => meets T (lft T N) (T (31 + 4 * it N k 0 + i))) (T (26 + it N k 0)))) (nI (T (26 + it N k 0))) = _
        unfold mX12_failsBy_l44f mX12_failsBy_b130
        rw [mneeds_ok hT2 hN2 (by omega) (by omega), obind, c_nlt (Nat.le_refl _) (by omega), pleas]
        cases allB (fun i => sure T (agr T S So) (T (31 + 4 * it N k 0 + i))) (T (26 + it N k 0)) <;> cases allB (fun i => meets T (lft T N) (T (31 + 4 * it N k 0 + i))) (T (26 + it N k 0)) <;> rfl
theorem mfailing_ok {T N : Nat → Nat} (h : MI I T N) {k : Nat} (hk' : k < N 18) : ∃ r q, mX12_failing 433 (nI k) (hk σ I L) = some (nI (fls T N k (it N k 4) (it N k 5)), hk σ (rowUp (rowUp I 448 q) 449 r) L) ∧ ∀ o, o < N 18 → r o = nI (bk N o) := by
  have hW := h.2.2.1
  have hbk := h.2.2.2.1.bkH hW
  have h256 := ev_lt hW.1.2.1
  obtain ⟨a0, a1, a2, a3, a4, a5, _⟩ := h.2.2.2.1.2.2.2.2.1 k hk'
  have a55 : it N k 5 < 256 := by have : it N k 5 &&& it N k 4 ≤ it N k 4 := Nat.and_le_right; omega
  obtain ⟨r, e, hr⟩ := mlaysBacks_ok (σ := σ) (L := L) h.2.1 hbk
  have h2 : MI (rowUp I 449 r) T N := h.up (by decide) (by decide) (by omega)
  obtain ⟨q, e2⟩ := mfailsBy_ok (σ := σ) (L := L) h2 hk' (S := it N k 4) (So := it N k 5) (by omega) a55 (fun o ho => by rw [rowUp_same]; exact hr o ho)
  refine ⟨r, q, ?_, hr⟩
  unfold mX12_failing
  rw [if_pos s433, e, obind, its_4 h2.2.1 (by have := hbk.1; omega), obind, its_5 h2.2.1 (by have := hbk.1; omega), obind, e2, b2s, rowUp_sw _ _ _ (show 448 < 449 by omega)]
theorem mstanding_ok {T N : Nat → Nat} (h : MI I T N) : ∃ r q, mX12_standing 433 (hk σ I L) = some (nI (stnd T N), hk σ (rowUp (rowUp I 448 q) 449 r) L) := by
  have h18 := (h.2.2.2.1.bkH h.2.2.1).1
  have h0 : hk σ I L = hk σ (rowUp (rowUp I 448 (I 448)) 449 (I 449)) L := by rw [rowUp_id, rowUp_id]
  rw [h0]
  unfold mX12_standing
  rw [if_pos s433]
  unfold mX12_standing_l4 stnd
  have hM : ∀ r q, MI (rowUp (rowUp I 448 q) 449 r) T N := fun r q => (h.up (by decide) (by decide) (by omega)).up (by decide) (by decide) (by omega)
  have key := lp_inv (f := fun s : Int32 × Int32 × Hp => mX12_standing_l4f 433 s.1 s.2.1 s.2.2) (N 18) (fun i st => ∃ r q, st = (nI (bs (fun k => decide (fls T N k (it N k 4) (it N k 5) = 0)) i), nI i, hk σ (rowUp (rowUp I 448 q) 449 r) L))
    (fun res => ∃ r q, res = (nI (bs (fun k => decide (fls T N k (it N k 4) (it N k 5) = 0)) (N 18)), hk σ (rowUp (rowUp I 448 q) 449 r) L))
    (fun i st hi hQ => by
      obtain ⟨r, q, rfl⟩ := hQ
      obtain ⟨r', q', e, _⟩ := mfailing_ok (σ := σ) (L := L) (hM r q) hi
      have ef : fls T N i (it N i 4) (it N i 5) < 7 := by unfold fls; repeat' split
                                                          all_goals omega
      rw [rowUp_sw (rowUp I 448 q) r q' (show 448 < 449 by omega), Nat.add_zero, rowUp_two, rowUp_two] at e
      refine ⟨_, ?_, r', q', rfl⟩
      show mX12_standing_l4f 433 (nI (bs (fun k => decide (fls T N k (it N k 4) (it N k 5) = 0)) i)) (nI i) _ = _
      unfold mX12_standing_l4f mX12_standing_b31
      rw [g438, L18, ldN (hM r q).2.1 (by omega), obind, c_lt hi (by omega), e, b2s, c_0 (by omega), shl1 (by omega), nx_or, nx_or0, nI_1]
      simp only [bs]
      by_cases hz : fls T N i (it N i 4) (it N i 5) = 0
      · rw [if_pos hz, if_pos (decide_eq_true hz)]
      · rw [if_neg hz, if_neg (by simpa using hz), Nat.or_zero])
    (fun st hQ => by
      obtain ⟨r, q, rfl⟩ := hQ
      refine ⟨_, ?_, r, q, rfl⟩
      show mX12_standing_l4f 433 _ (nI (N 18)) _ = _
      unfold mX12_standing_l4f
      rw [g438, L18, ldN (hM r q).2.1 (by omega), obind, c_nlt (Nat.le_refl _) (by omega)]; rfl)
    (s := (nI 0, nI 0, hk σ (rowUp (rowUp I 448 (I 448)) 449 (I 449)) L)) ⟨_, _, rfl⟩
  obtain ⟨res, e, r, q, rfl⟩ := key
  exact ⟨r, q, e⟩
end MF2
