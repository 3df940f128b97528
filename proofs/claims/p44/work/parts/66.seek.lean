section Seek
variable {σ : Sg} {I I' J I1 I2 : Nat → Nat → Int32} {L L' L1 L2 : Nat → Nat → Int64}
theorem mv_want {T N : Nat → Nat} {k x : Nat} (wn : Bool) : (mv (cn (lft T N) (T 1) x) (cn (lw T N k) (T 1) x) = (if wn = true then 1 else 2)) ↔ (lv T N x && prv T N k wn x) = true := by
  have le := lw_le (T := T) (N := N) (k := k) (x := x)
  cases wn
  · show (mv (cn (lft T N) (T 1) x) (cn (lw T N k) (T 1) x) = 2) ↔ (lv T N x && decide (cn (lw T N k) (T 1) x = 0)) = true
    unfold mv lv
    rw [Bool.and_eq_true, decide_eq_true_iff, decide_eq_true_iff]
    split <;> split <;> omega
  · show (mv (cn (lft T N) (T 1) x) (cn (lw T N k) (T 1) x) = 1) ↔ (lv T N x && decide (cn (lw T N k) (T 1) x = cn (lft T N) (T 1) x)) = true
    unfold mv lv
    rw [Bool.and_eq_true, decide_eq_true_iff, decide_eq_true_iff]
    split <;> split <;> omega
theorem lv_less {T N : Nat → Nat} {x f d : Nat} (hf : f < T 1) (h0 : dg x f = 0) (hd : d = 1 ∨ d = 2) (hl : lv T N (x + d * 3 ^ f) = true) : lv T N x = true := by
  cases e : lv T N x
  · rw [lv_dead hf h0 e hd] at hl; cases hl
  · rfl
theorem cisProof_ok {T N : Nat → Nat} (hW : WT T) (hTh : Th I) {k fs so : Nat} (hT : TR T N k I) (wn : Bool) (hf : sb fs (fre T N)) (hs : sb so fs) : mX9_isProof 420 (nI fs) (nI so) (nI (if wn = true then 1 else 2)) (hk σ I L) = some (bI (pf T N k wn fs so)) := by
  have w1 := hW.1.2.1
  have hF := fre_lt (N := N) hW
  have hfl := sb_le hf
  have hsl := sb_le hs
  have hn := nd_lt fs so
  have wb : (if wn = true then 1 else 2) < 3 := by split <;> omega
  have m3 := mv_3 (cn (lft T N) (T 1) (nd fs so)) (cn (lw T N k) (T 1) (nd fs so))
  unfold mX9_isProof pf
  rw [if_pos s420, node_ok hTh (by omega) (by omega), obind, g9, RF_420_2, at_r (n := 6561) rfl hn (by omega), obind, hT.2 fs so hf hs, c_eqd (by omega) (by omega)]
  by_cases hm : (lv T N (nd fs so) && prv T N k wn (nd fs so)) = true
  · rw [if_pos ((mv_want wn).mpr hm), hm, Bool.true_and]
    rw [Bool.and_eq_true] at hm
    unfold mX9_isProof_l26
    have body : ∀ i, i < 8 → mX9_isProof_l26f 420 (nI fs) (nI so) (nI (if wn = true then 1 else 2)) (nI (nd fs so)) (hk σ I L) (nI i) = if (!(fs.testBit i && prv T N k wn (nd (rmv fs i) (rmv so i)))) = true then some (.inl (nI (i + 1))) else some (.inr 0) := by
      intro i hi
      have hp2 : 2 ^ i < 256 := Nat.pow_lt_pow_right (a := 2) (by omega) hi
      have b47 : ∀ d, (fs.testBit i = true → d = if so.testBit i = true then 2 else 1) → mX9_isProof_b47 420 (nI fs) (nI so) (nI (if wn = true then 1 else 2)) (nI (nd fs so)) (nI i) (nI d) (hk σ I L) = if (!(fs.testBit i && prv T N k wn (nd (rmv fs i) (rmv so i)))) = true then some (.inl (nI (i + 1))) else some (.inr 0) := by
        intro d hd
        unfold mX9_isProof_b47 mX9_isProof_b88
        rw [has_nI (by omega) (by omega), obind, bI_if0, nI_1]
        cases q : fs.testBit i
        · rw [if_pos rfl]; rfl
        · have hd := hd q
          have r0 := rmv_sb (s := fs) (f := i)
          have r1 := rmv_sb2 (f := i) hs
          have rl := nd_lt (rmv fs i) (rmv so i)
          have e := nd_rmv hi hs q
          have i1 := fre_T hf q
          have d0 : dg (nd (rmv fs i) (rmv so i)) i = 0 := by
            rw [dg_nd _ _ hi]; unfold b1; rw [rmv_f, rmv_f]; rfl
          have lvr : lv T N (nd (rmv fs i) (rmv so i)) = true := lv_less i1 d0 (d := if so.testBit i = true then 2 else 1) (by split <;> omega) (by rw [← e]; exact hm.1)
          have m3' := mv_3 (cn (lft T N) (T 1) (nd (rmv fs i) (rmv so i))) (cn (lw T N k) (T 1) (nd (rmv fs i) (rmv so i)))
          have sub : nI (nd fs so) - nI d * nI (3 ^ i) = nI (nd (rmv fs i) (rmv so i)) := by
            rw [pk_mul, nI_sub (by rw [e, hd]; omega), e, hd, Nat.add_sub_cancel]
          rw [if_neg nTF, g9, RF_420_2, g9, RF_420_0, shl1 (by omega), at_r (n := 256) rfl hp2 (by omega), obind, hTh _ hp2, th_1 hi, sub, at_r (n := 6561) rfl rl (by omega), obind, hT.2 _ _ (sb_tr r0 hf) r1, c_eqd (by omega) (by omega), Bool.true_and]
          have mw := mv_want (T := T) (N := N) (k := k) (x := nd (rmv fs i) (rmv so i)) wn
          rw [lvr, Bool.true_and] at mw
          cases p : prv T N k wn (nd (rmv fs i) (rmv so i))
          · rw [if_neg (fun z => by have := mw.mp z; rw [p] at this; cases this)]; rfl
          · rw [if_pos (mw.mpr p), xts]; rfl
      unfold mX9_isProof_l26f
      rw [c_lt8 hi, has_nI (by omega) (by omega), obind, bI_if0]
      cases q : so.testBit i
      · rw [if_pos rfl, show (1 : Int32) = nI 1 from rfl]
        exact b47 1 fun _ => by rw [q]; rfl
      · rw [if_neg nTF, show (2 : Int32) = nI 2 from rfl]
        exact b47 2 fun _ => by rw [q]; rfl
    have cut : allB (fun f => !(fs.testBit f && prv T N k wn (nd (rmv fs f) (rmv so f)))) (T 1) = allB (fun f => !(fs.testBit f && prv T N k wn (nd (rmv fs f) (rmv so f)))) 8 := by
      rw [Bool.eq_iff_iff, allB_iff, allB_iff]
      constructor
      · intro h w hw
        cases q : fs.testBit w
        · rfl
        · have := h w (fre_T hf q)
          rw [q] at this
          exact this
      · intro h w hw
        exact h w (by omega)
    rw [cut]
    refine (lp_all (f := fun s : Int32 => mX9_isProof_l26f 420 (nI fs) (nI so) (nI (if wn = true then 1 else 2)) (nI (nd fs so)) (hk σ I L) s) 8 (fun i => nI i) (fun f => !(fs.testBit f && prv T N k wn (nd (rmv fs f) (rmv so f)))) (0 : Int32) (1 : Int32) (fun i hi hp => ?_) (fun i hi hp => ?_) ?_).trans ?_
    · show mX9_isProof_l26f 420 (nI fs) (nI so) (nI (if wn = true then 1 else 2)) (nI (nd fs so)) (hk σ I L) (nI i) = _
      rw [body i hi, hp, if_pos rfl]
    · show mX9_isProof_l26f 420 (nI fs) (nI so) (nI (if wn = true then 1 else 2)) (nI (nd fs so)) (hk σ I L) (nI i) = _
      rw [body i hi, hp, if_neg (by decide)]
    · show mX9_isProof_l26f 420 (nI fs) (nI so) (nI (if wn = true then 1 else 2)) (nI (nd fs so)) (hk σ I L) (nI 8) = _
      unfold mX9_isProof_l26f
      rw [if_neg (by decide), xts]
    · cases allB (fun f => !(fs.testBit f && prv T N k wn (nd (rmv fs f) (rmv so f)))) 8 <;> rfl
  · rw [if_neg (fun z => hm ((mv_want wn).mp z))]
    rw [Bool.not_eq_true] at hm
    rw [hm, Bool.false_and]; rfl
/-- what has been sought so far -/
def SK (T N : Nat → Nat) (k : Nat) (wn : Bool) (m : Int32) (ρ : Nat → Int32) (e : Nat) : Prop := PK (fre T N) ρ e ∧ e ≤ 589824 ∧ (nI (cntB (kq T N k wn) e) = m → e = 0 ∨ ∃ c, e = c + 1 ∧ kq T N k wn c = true) ∧ ∀ a, a ≤ 6561 → m = nI a → cntB (kq T N k wn) e ≤ a
theorem seek_ok {T N : Nat → Nat} (hW : WT T) (hTh : Th I) {k : Nat} (hT : TR T N k I) (wn : Bool) (m : Int32) :
    ∃ v ρ, mX11_seekProofs 100 (bI wn) m (hk σ I L) = some (v, hk σ (rowUp I 425 ρ) L) ∧ ((∃ e, v = nI (cntB (kq T N k wn) e) ∧ SK T N k wn m ρ e ∧ (v = m ∨ cntB (kq T N k wn) e = cntB (kq T N k wn) 589824)) ∨ (v = nI (cntB (kq T N k wn) 589824) ∧ ∀ a, a ≤ 6561 → m = nI a → cntB (kq T N k wn) 589824 < a)) := by
  have tr : ∀ ρ, TR T N k (rowUp I 425 ρ) := fun ρ => hT.up ρ (by decide) (by decide)
  have tt : ∀ ρ, Th (rowUp I 425 ρ) := fun ρ => hTh.up ρ (by decide)
  have go : mX11_seekProofs 100 (bI wn) m (hk σ I L) = mX11_seekProofs_b9 100 m (nI (if wn = true then 1 else 2)) (hk σ I L) := by
    unfold mX11_seekProofs
    rw [if_pos s100, bI_if0]
    cases wn
    · rw [if_pos rfl]; rfl
    · rw [if_neg nTF]; rfl
  rw [go]
  unfold mX11_seekProofs_b9 mX11_seekProofs_l30 mX3_start
  rw [gPick, gTree, gI_o 4 (n := 5) rfl, obind, hT.1, if_pos s425, sI_ok s425, obind, setI_hk, hpI_hk', sI_ok s425, obind, setI_hk, rowUp_two, hpI_hk', rowUp_same, sI_ok s425, obind, setI_hk, rowUp_two, hpI_hk', rowUp_same, sI_ok s425, obind, setI_hk, rowUp_two, hpI_hk', rowUp_same, sZ_ok s425 (Or.inl rfl), obind, setI_hk, rowUp_two, hpI_hk', rowUp_same, obind]
  have start : PK (fre T N) (updA (updA (updA (updA (updA (I 425) 0 (nI (fre T N))) 1 0) 2 0) 3 0) 4 0) 0 := by
    refine ⟨?_, Or.inl ⟨rfl, ?_, ?_, ?_, ?_⟩⟩
    · rw [updA_ne _ _ (by omega), updA_ne _ _ (by omega), updA_ne _ _ (by omega), updA_ne _ _ (by omega), updA_same]
    · rw [updA_ne _ _ (by omega), updA_ne _ _ (by omega), updA_ne _ _ (by omega), updA_same]
    · rw [updA_ne _ _ (by omega), updA_ne _ _ (by omega), updA_same]
    · rw [updA_ne _ _ (by omega), updA_same]
    · rw [updA_same]
  have key := lp_ind (f := fun s : Int32 × Int32 × Hp => mX11_seekProofs_l30f 100 m (nI (if wn = true then 1 else 2)) s.1 s.2.1 s.2.2)
    (fun st => ∃ e ρ, st = (nI (cntB (kq T N k wn) e), nI (cntB (kv (fre T N)) e), hk σ (rowUp I 425 ρ) L) ∧ SK T N k wn m ρ e)
    (fun st => 6561 - ixN st.2.1)
    (fun o => ∃ v ρ, o = some (v, hk σ (rowUp I 425 ρ) L) ∧ ((∃ e, v = nI (cntB (kq T N k wn) e) ∧ SK T N k wn m ρ e ∧ (v = m ∨ cntB (kq T N k wn) e = cntB (kq T N k wn) 589824)) ∨ (v = nI (cntB (kq T N k wn) 589824) ∧ ∀ a, a ≤ 6561 → m = nI a → cntB (kq T N k wn) 589824 < a)))
    (fun st hQ => by
      obtain ⟨e, ρ, rfl, hs⟩ := hQ
      have cq := kq_cnt (T := T) (N := N) (k := k) (wn := wn) e
      have cv := kv_cnt (F0 := fre T N) e
      have cvK := kv_cnt (F0 := fre T N) 589824
      show (∃ t, mX11_seekProofs_l30f 100 m (nI (if wn = true then 1 else 2)) (nI (cntB (kq T N k wn) e)) (nI (cntB (kv (fre T N)) e)) (hk σ (rowUp I 425 ρ) L) = some (.inl t) ∧ _ ∧ 6561 - ixN t.2.1 < 6561 - ixN (nI (cntB (kv (fre T N)) e))) ∨ ∃ o, mX11_seekProofs_l30f 100 m (nI (if wn = true then 1 else 2)) (nI (cntB (kq T N k wn) e)) (nI (cntB (kv (fre T N)) e)) (hk σ (rowUp I 425 ρ) L) = some (.inr o) ∧ _
      unfold mX11_seekProofs_l30f
      rw [show (6561 : Int32) = nI 6561 from rfl]
      by_cases hi : cntB (kv (fre T N)) e < 6561
      · rw [c_lt hi (by omega)]
        by_cases hv : nI (cntB (kq T N k wn) e) = m
        · rw [if_pos hv, xts]
          exact Or.inr ⟨_, rfl, _, ρ, rfl, Or.inl ⟨e, rfl, hs, Or.inl hv⟩⟩
        · have lt : ∀ a, a ≤ 6561 → m = nI a → cntB (kq T N k wn) e < a := fun a ha q => by
            have := hs.2.2.2 a ha q
            rcases Nat.lt_or_ge (cntB (kq T N k wn) e) a with z | z
            · exact z
            · exact absurd (by rw [q, Nat.le_antisymm this z]) hv
          rw [if_neg hv, gPick]
          obtain ⟨w, ρ', e1, e2⟩ := more_ok (σ := σ) (I := I) (L := L) (fre_lt (N := N) hW) hs.1
          rw [e1, b2s]
          rcases e2 with ⟨rfl, c, c1, c2, c3, c4, c5⟩ | ⟨rfl, c1⟩
          · obtain ⟨pk0, ⟨pe, _⟩ | ⟨c', hc', _, p1, p2, p3, p4⟩⟩ := c5
            · omega
            obtain rfl : c' = c := by omega
            have v := kv_iff.mp c3
            have pkn : PK (fre T N) ρ' (c' + 1) := ⟨pk0, Or.inr ⟨c', rfl, c3, p1, p2, p3, p4⟩⟩
            have gq : cntB (kq T N k wn) c' = cntB (kq T N k wn) e := kq_gap c1 c4
            have gv : cntB (kv (fre T N)) c' = cntB (kv (fre T N)) e := cnt_gap c1 c4
            have hkq : kq T N k wn c' = pf T N k wn (kf c') (ks c') := by unfold kq; rw [c3, Bool.true_and]
            rw [if_neg (show ¬ (1 : Int32) = 0 by decide), gTree, gPick, gI_o 2 (n := 5) rfl, obind, rowUp_same, p2, gPick, gI_o 3 (n := 5) rfl, obind, rowUp_same, p3, cisProof_ok hW (tt ρ') (tr ρ') wn v.2.1 v.2.2, obind, bI_if0, ← hkq]
            unfold mX11_seekProofs_b82
            rw [nI_1, nI_1]
            refine Or.inl ?_
            have cvs : cntB (kv (fre T N)) (c' + 1) = cntB (kv (fre T N)) e + 1 := by rw [cntS, c3, if_pos rfl, gv]
            cases hq : kq T N k wn c'
            · have cqs : cntB (kq T N k wn) (c' + 1) = cntB (kq T N k wn) e := by rw [cntS, hq, if_neg (by decide), gq, Nat.add_zero]
              rw [if_pos rfl]
              refine ⟨_, rfl, ⟨c' + 1, ρ', by rw [cvs, cqs], pkn, by omega, fun z => absurd (by rw [← z, cqs]) hv, fun a ha q => by rw [cqs]; exact Nat.le_of_lt (lt a ha q)⟩, ?_⟩
              show 6561 - ixN (nI (cntB (kv (fre T N)) e + 1)) < _
              rw [ixN_nI (by omega), ixN_nI (by omega)]; omega
            · have cqs : cntB (kq T N k wn) (c' + 1) = cntB (kq T N k wn) e + 1 := by rw [cntS, hq, if_pos rfl, gq]
              rw [if_neg nTF]
              refine ⟨_, rfl, ⟨c' + 1, ρ', by rw [cvs, cqs], pkn, by omega, fun z => Or.inr ⟨c', rfl, hq⟩, fun a ha q => by rw [cqs]; exact lt a ha q⟩, ?_⟩
              show 6561 - ixN (nI (cntB (kv (fre T N)) e + 1)) < _
              rw [ixN_nI (by omega), ixN_nI (by omega)]; omega
          · rw [if_pos rfl, xts]
            have eq := kq_gap (k := k) (wn := wn) hs.2.1 c1
            exact Or.inr ⟨_, rfl, _, ρ', rfl, Or.inr ⟨by rw [eq], fun a ha q => by rw [eq]; exact lt a ha q⟩⟩
      · rw [c_nlt (by omega) (by omega), xts]
        refine Or.inr ⟨_, rfl, _, ρ, rfl, Or.inl ⟨e, rfl, hs, Or.inr ?_⟩⟩
        rw [kq_gap (k := k) (wn := wn) hs.2.1 fun d d1 d2 => ?_]
        cases q : kv (fre T N) d
        · rfl
        · have a := cnt_lt q d2
          have b : cntB (kv (fre T N)) e ≤ cntB (kv (fre T N)) d := cntB_mono _ d1
          omega)
    (nI 0, nI 0, hk σ (rowUp I 425 (updA (updA (updA (updA (updA (I 425) 0 (nI (fre T N))) 1 0) 2 0) 3 0) 4 0)) L) ⟨0, _, rfl, start, by omega, fun _ => Or.inl rfl, fun a _ _ => Nat.zero_le _⟩
  exact key
/-- both sides of proofs and proof -/
theorem proofs_both {T N : Nat → Nat} (h : CR σ I L T N) (hTh : Th I) {k : Nat} (hk' : k < N 18) (wn : Bool) (m : Int32) :
    ∃ hh v I1 L1, mX11_growTrial 100 (nI k) (hk σ I L) = some hh ∧ mX11_seekProofs 100 (bI wn) m hh = some (v, hk σ I1 L1) ∧ FrC I L I1 L1 ∧
      ((∃ e, v = nI (cntB (kq T N k wn) e) ∧ SK T N k wn m (I1 425) e ∧ (v = m ∨ cntB (kq T N k wn) e = cntB (kq T N k wn) 589824)) ∨ (v = nI (cntB (kq T N k wn) 589824) ∧ ∀ a, a ≤ 6561 → m = nI a → cntB (kq T N k wn) 589824 < a)) := by
  obtain ⟨I1, L1, e1, f1, hl1, t1⟩ := growTrial_ok h hTh hk'
  obtain ⟨v, ρ, e2, h2⟩ := seek_ok (σ := σ) (L := L1) h.2.1 (hTh.frC f1) t1 wn m
  exact ⟨_, v, rowUp I1 425 ρ, L1, e1, e2, f1.upI _ (by unfold scC; omega), by rw [rowUp_same]; exact h2⟩
end Seek
