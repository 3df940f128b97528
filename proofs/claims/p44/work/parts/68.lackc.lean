section LackC
variable {σ : Sg} {I I' J I1 I2 : Nat → Nat → Int32} {L L' L1 L2 : Nat → Nat → Int64}
/-- facts that a COUNT does not say -/
def fr2 (T N : Nat → Nat) (k : Nat) : Nat := (2 ^ T 1 - 1) ^^^ ((2 ^ T 1 - 1) &&& it N k 4)
theorem fr2_bit (T N : Nat → Nat) (k i : Nat) : (fr2 T N k).testBit i = (decide (i < T 1) && !(it N k 4).testBit i) := by
  unfold fr2
  rw [Nat.testBit_xor, Nat.testBit_and, Nat.testBit_two_pow_sub_one]
  cases decide (i < T 1) <;> cases (it N k 4).testBit i <;> rfl
theorem fr2_lt {T N : Nat → Nat} {k : Nat} (hW : WT T) : fr2 T N k < 256 := by
  have w1 := hW.1.2.1
  have h : 2 ^ T 1 - 1 < 2 ^ 8 := by have := Nat.pow_le_pow_right (n := 2) (by omega) w1; omega
  exact Nat.xor_lt_two_pow (n := 8) h (Nat.lt_of_le_of_lt Nat.and_le_left h)
/-- literals that would do -/
def lok (T N : Nat → Nat) (k c : Nat) : Bool := kv (fr2 T N k) c && (decide (((ks c ^^^ knS N) &&& kf c) &&& knF N = 0) && decide (fls T N k (it N k 4 ||| kf c) (it N k 5 ||| ks c) = 0))
theorem fls_0 {T N : Nat → Nat} {k S So : Nat} : fls T N k S So = 0 ↔ it N k 6 ≠ 1 ∧ anyB (agr T S So) 256 = true ∧ allB (fun i => sure T (agr T S So) (T (31 + 4 * it N k 0 + i))) (T (26 + it N k 0)) = true ∧ allB (fun i => meets T (lft T N) (T (31 + 4 * it N k 0 + i))) (T (26 + it N k 0)) = true ∧
    anyB (fun p => plq T (it N k 0) p && (sure T (agr T S So) (T (72 + p)) || sure T (lft T N) (T (72 + p)))) (T 4) = false ∧ ¬ T 5 < it N k 3 + bkF (bk N) N k S k := by
  unfold fls
  by_cases h1 : it N k 6 = 1
  · rw [if_pos h1]; simp [h1]
  · rw [if_neg h1]
    by_cases h2 : anyB (agr T S So) 256 = false
    · rw [if_pos h2]; simp [h2]
    · rw [if_neg h2]
      rw [Bool.not_eq_false] at h2
      by_cases h3 : allB (fun i => sure T (agr T S So) (T (31 + 4 * it N k 0 + i))) (T (26 + it N k 0)) = false
      · rw [if_pos h3]; simp [h3]
      · rw [if_neg h3]
        rw [Bool.not_eq_false] at h3
        by_cases h4 : allB (fun i => meets T (lft T N) (T (31 + 4 * it N k 0 + i))) (T (26 + it N k 0)) = false
        · rw [if_pos h4]; simp [h4]
        · rw [if_neg h4]
          rw [Bool.not_eq_false] at h4
          by_cases h5 : anyB (fun p => plq T (it N k 0) p && (sure T (agr T S So) (T (72 + p)) || sure T (lft T N) (T (72 + p)))) (T 4) = true
          · rw [if_pos h5]; simp [h5]
          · rw [if_neg h5]
            rw [Bool.not_eq_true] at h5
            by_cases h6 : T 5 < it N k 3 + bkF (bk N) N k S k
            · rw [if_pos h6]; simp [h6]
            · rw [if_neg h6]; simp [h1, h2, h3, h4, h5, h6]
theorem any_split {q f g : Nat → Bool} {n : Nat} (hg : anyB (fun p => q p && g p) n = false) : anyB (fun p => q p && (f p || g p)) n = anyB (fun p => q p && f p) n := by
  rw [← any_or2, hg, Bool.or_false]
/-- where nothing bars it by what is left -/
theorem lok_is {T N : Nat → Nat} {k c : Nat} (hs : it N k 6 ≠ 1) (hm : allB (fun i => meets T (lft T N) (T (31 + 4 * it N k 0 + i))) (T (26 + it N k 0)) = true) (hb : anyB (fun p => plq T (it N k 0) p && sure T (lft T N) (T (72 + p))) (T 4) = false) (hv : kv (fr2 T N k) c = true) :
    lok T N k c = (decide (((ks c ^^^ knS N) &&& kf c) &&& knF N = 0) && ((anyB (agr T (it N k 4 ||| kf c) (it N k 5 ||| ks c)) 256 && (allB (fun i => sure T (agr T (it N k 4 ||| kf c) (it N k 5 ||| ks c)) (T (31 + 4 * it N k 0 + i))) (T (26 + it N k 0)) && !anyB (fun p => plq T (it N k 0) p && sure T (agr T (it N k 4 ||| kf c) (it N k 5 ||| ks c)) (T (72 + p))) (T 4))) && !decide (T 5 < it N k 3 + bkF (bk N) N k (it N k 4 ||| kf c) k))) := by
  unfold lok
  rw [hv, Bool.true_and]
  refine congrArg (fun z => decide (((ks c ^^^ knS N) &&& kf c) &&& knF N = 0) && z) ?_
  rw [Bool.eq_iff_iff, decide_eq_true_iff, fls_0, any_split hb]
  rw [Bool.and_eq_true, Bool.and_eq_true, Bool.and_eq_true, Bool.not_eq_true', Bool.not_eq_true', decide_eq_false_iff_not]
  constructor
  · rintro ⟨_, a, b, _, d, e⟩; exact ⟨⟨a, b, d⟩, e⟩
  · rintro ⟨⟨a, b, d⟩, e⟩; exact ⟨hs, a, b, hm, d, e⟩
theorem and_turn (a b f g : Nat) : (f &&& g) &&& (a ^^^ b) = ((a ^^^ b) &&& f) &&& g := by
  apply Nat.eq_of_testBit_eq; intro i
  simp only [Nat.testBit_and, Nat.testBit_xor]
  cases a.testBit i <;> cases b.testBit i <;> cases f.testBit i <;> cases g.testBit i <;> rfl
theorem setLeaf_ok {w v : Nat} (hw : w < 256) (r : Nat → Int32) : mX9_setLeaf 420 (nI w) (nI v) (hk σ (rowUp I 422 r) L) = some (hk σ (rowUp I 422 (updA r w (nI v))) L) := by
  unfold mX9_setLeaf
  rw [if_pos s420, g9, RF_420_1, put_nI (n := 256) rfl (by omega) hw, obind, setI_hk, rowUp_two, hpI_hk', rowUp_same]
theorem clackL_ok {T N : Nat → Nat} (h : CR σ I L T N) (hTh : Th I) {k : Nat} (hk' : k < N 18) (hs : it N k 6 ≠ 1) (hm : allB (fun i => meets T (lft T N) (T (31 + 4 * it N k 0 + i))) (T (26 + it N k 0)) = true) (hb : anyB (fun p => plq T (it N k 0) p && sure T (lft T N) (T (72 + p))) (T 4) = false)
    (hB : ∀ o, o < k → I 432 o = nI (bk N o)) (hF : I 420 4 = nI (fr2 T N k)) (hM : ∀ fs so, sb fs (fr2 T N k) → sb so fs → I 423 (nd fs so) = nI (mk (flv T (it N k 0)) (fr2 T N k) (it N k 5) fs so)) (ρ : Nat → Int32) (hP : PK (fr2 T N k) ρ 0) :
    ∃ b ρ', mX11_findLack_l155 100 (nI k) (nI (it N k 0)) (nI (it N k 4)) 0 (hk σ (rowUp I 425 ρ) L) = some (bI b, hk σ (rowUp I 425 ρ') L) ∧ ((b = true ∧ ∃ c, c < 589824 ∧ lok T N k c = true ∧ (∀ d, d < c → lok T N k d = false) ∧ ρ' 2 = nI (kf c) ∧ ρ' 3 = nI (ks c)) ∨ (b = false ∧ ∀ d, d < 589824 → lok T N k d = false)) := by
  have hW := h.2.1
  have hN := h.2.2.1
  have hsa := h.1.2.1
  have hla := h.1.1
  have hFr := fr2_lt (N := N) (k := k) hW
  obtain ⟨i4, i5, i54⟩ := WN.say hW hN hk'
  obtain ⟨b18, b4, bm⟩ := hN.bkH hW
  have w4 := hW.1.2.2.2.2.1
  have w5 := hW.1.2.2.2.2.2.1
  have hb0 := (hN.2.2.2.2.1 k hk').1
  have h3b := (hN.2.2.2.2.1 k hk').2.2.2.1
  have cr : ∀ ρ, CR σ (rowUp I 425 ρ) L T N := fun ρ => h.upI (by omega)
  have th : ∀ ρ, Th (rowUp I 425 ρ) := fun ρ => hTh.up ρ (by decide)
  unfold mX11_findLack_l155
  have key := lp_ind (f := fun s : Int32 × Hp => mX11_findLack_l155f 100 (nI k) (nI (it N k 0)) (nI (it N k 4)) s.1 s.2)
    (fun st => ∃ e ρ, st = (nI (cntB (kv (fr2 T N k)) e), hk σ (rowUp I 425 ρ) L) ∧ PK (fr2 T N k) ρ e ∧ e ≤ 589824 ∧ ∀ d, d < e → lok T N k d = false)
    (fun st => 6561 - ixN st.1)
    (fun o => ∃ b ρ', o = some (bI b, hk σ (rowUp I 425 ρ') L) ∧ ((b = true ∧ ∃ c, c < 589824 ∧ lok T N k c = true ∧ (∀ d, d < c → lok T N k d = false) ∧ ρ' 2 = nI (kf c) ∧ ρ' 3 = nI (ks c)) ∨ (b = false ∧ ∀ d, d < 589824 → lok T N k d = false)))
    (fun st hQ => by
      obtain ⟨e, ρ, rfl, hp, he, hz⟩ := hQ
      have cv := kv_cnt (F0 := fr2 T N k) e
      have cvK := kv_cnt (F0 := fr2 T N k) 589824
      have more : (∀ d, e ≤ d → d < 589824 → kv (fr2 T N k) d = false) → ∀ d, d < 589824 → lok T N k d = false := fun q d hd => by
        by_cases z : d < e
        · exact hz d z
        · unfold lok; rw [q d (by omega) hd]; rfl
      show (∃ t, mX11_findLack_l155f 100 (nI k) (nI (it N k 0)) (nI (it N k 4)) (nI (cntB (kv (fr2 T N k)) e)) (hk σ (rowUp I 425 ρ) L) = some (.inl t) ∧ _ ∧ 6561 - ixN t.1 < 6561 - ixN (nI (cntB (kv (fr2 T N k)) e))) ∨ ∃ o, mX11_findLack_l155f 100 (nI k) (nI (it N k 0)) (nI (it N k 4)) (nI (cntB (kv (fr2 T N k)) e)) (hk σ (rowUp I 425 ρ) L) = some (.inr o) ∧ _
      unfold mX11_findLack_l155f
      rw [show (6561 : Int32) = nI 6561 from rfl]
      by_cases hi : cntB (kv (fr2 T N k)) e < 6561
      · rw [c_lt hi (by omega), gPick]
        obtain ⟨w, ρ', e1, e2⟩ := more_ok (σ := σ) (I := I) (L := L) hFr hp
        rw [e1, b2s]
        rcases e2 with ⟨rfl, c, c1, c2, c3, c4, c5⟩ | ⟨rfl, c1⟩
        · obtain ⟨pk0, ⟨pe, _⟩ | ⟨c', hc', _, p1, p2, p3, p4⟩⟩ := c5
          · omega
          obtain rfl : c' = c := by omega
          have v := kv_iff.mp c3
          have kl := kf_lt c'
          have sl := ks_lt c'
          have pkn : PK (fr2 T N k) ρ' (c' + 1) := ⟨pk0, Or.inr ⟨c', rfl, c3, p1, p2, p3, p4⟩⟩
          have gv : cntB (kv (fr2 T N k)) c' = cntB (kv (fr2 T N k)) e := cnt_gap c1 c4
          have cvs : cntB (kv (fr2 T N k)) (c' + 1) = cntB (kv (fr2 T N k)) e + 1 := by rw [cntS, c3, if_pos rfl, gv]
          have hz' : ∀ d, d < c' → lok T N k d = false := fun d hd => by
            by_cases z : d < e
            · exact hz d z
            · unfold lok; rw [c4 d (by omega) hd]; rfl
          have skip : lok T N k c' = false → (∃ t, mX11_findLack_b289 100 (nI k) (nI (it N k 0)) (nI (it N k 4)) (nI (cntB (kv (fr2 T N k)) e)) (hk σ (rowUp I 425 ρ') L) = some (.inl t) ∧ (∃ e ρ, t = (nI (cntB (kv (fr2 T N k)) e), hk σ (rowUp I 425 ρ) L) ∧ PK (fr2 T N k) ρ e ∧ e ≤ 589824 ∧ ∀ d, d < e → lok T N k d = false) ∧ 6561 - ixN t.1 < 6561 - ixN (nI (cntB (kv (fr2 T N k)) e))) := fun q => by
            unfold mX11_findLack_b289
            rw [nI_1]
            refine ⟨_, rfl, ⟨c' + 1, ρ', by rw [cvs], pkn, by omega, fun d hd => ?_⟩, ?_⟩
            · by_cases z : d = c'
              · subst z; exact q
              · exact hz' d (by omega)
            · show 6561 - ixN (nI (cntB (kv (fr2 T N k)) e + 1)) < _
              rw [ixN_nI (by omega), ixN_nI (by omega)]; omega
          have lk := lok_is hs hm hb c3
          have So : sb (it N k 5) (it N k 4) := sb_and' i54
          rw [if_neg (show ¬ (1 : Int32) = 0 by decide), gPick, gI_o 2 (n := 5) rfl, obind, rowUp_same, p2, gSa, known_ok hsa (cr ρ').2.2.2.2, obind, gPick, gI_o 3 (n := 5) rfl, obind, rowUp_same, p3, gSa, gI_st hsa, obind, (cr ρ').2.2.2.2.1.2.2.2.2.2.2.2.2, nx_and, nx_xor, nx_and, and_turn]
          have al : ((ks c' ^^^ knS N) &&& kf c') &&& knF N < 256 := Nat.lt_of_le_of_lt Nat.and_le_right (knF_lt N)
          rw [c_0 (by omega)]
          by_cases ha : ((ks c' ^^^ knS N) &&& kf c') &&& knF N = 0
          · rw [if_pos ha]
            rw [decide_eq_true ha, Bool.true_and, ← snd_fl w4 (fr2_bit T N k) So v.2.1 v.2.2] at lk
            have mb : mk (flv T (it N k 0)) (fr2 T N k) (it N k 5) (kf c') (ks c') < 256 := by
              refine Nat.lt_pow_two_of_testBit (n := 8) _ fun i hi => ?_
              rw [mk_fl (fr2_bit T N k) So v.2.1 v.2.2, decide_eq_false (by omega), ← Bool.not_eq_true, anyB_iff]
              rintro ⟨w, _, h2⟩
              rw [Bool.false_and, Bool.and_false] at h2; cases h2
            have nl := nd_lt (kf c') (ks c')
            have mo : mX9_markOf 420 (nI (kf c')) (nI (ks c')) (hk σ (rowUp I 425 ρ') L) = some (nI (mk (flv T (it N k 0)) (fr2 T N k) (it N k 5) (kf c') (ks c'))) := by
              unfold mX9_markOf
              rw [if_pos s420, g9, RF_420_2, node_ok (th ρ') kl sl, obind, at_r (n := 6561) rfl nl (by omega), obind, rowUp_at, if_neg (by decide), hM _ _ v.2.1 v.2.2]
            unfold mX11_findLack_b212
            rw [if_pos rfl, gLa, gTree, gPick, gI_o 2 (n := 5) rfl, obind, rowUp_same, p2, gPick, gI_o 3 (n := 5) rfl, obind, rowUp_same, p3, mo, obind, sound_ok (cr ρ') hb0 mb, obind, bI_if0]
            cases hq : snd T (it N k 0) (mk (flv T (it N k 0)) (fr2 T N k) (it N k 5) (kf c') (ks c'))
            · rw [if_pos rfl]
              exact Or.inl (skip (by rw [lk, hq]; rfl))
            · rw [hq, Bool.true_and] at lk
              have o8 : it N k 4 ||| kf c' < 256 := Nat.or_lt_two_pow (n := 8) i4 kl
              have lb := leastBack_ok (B := bk N) (cr ρ') (k := k) (S := it N k 4 ||| kf c') hk' o8 (fun o ho => by
                rw [rowUp_at, if_neg (by decide)]
                have := bk_le N o
                have := (b4 o (by omega)).2
                exact ⟨hB o ho, by omega⟩)
              have bl := bkF_le (bk N) N k (it N k 4 ||| kf c') k
              have b1k := (b4 k hk').2
              obtain ⟨_, _, s3, _⟩ := (cr ρ').2.2.2.2.2 k hk'
              rw [if_neg nTF, gSa, gR_st hsa, obind, RF_st_11 σ hsa, at_r (SH_st3 hsa) (by omega) (by omega), obind, s3, gPick, gI_o 2 (n := 5) rfl, obind, rowUp_same, p2, nx_or, lb, obind, gLa, gI_la hla, obind, (cr ρ').2.2.2.1.1.2.2.2.2.1, nI_add, c_ltd (by omega) (by omega)]
              by_cases hl : T 5 < it N k 3 + bkF (bk N) N k (it N k 4 ||| kf c') k
              · rw [if_pos hl]
                exact Or.inl (skip (by rw [lk, decide_eq_true hl]; rfl))
              · rw [if_neg hl, xts]
                exact Or.inr ⟨_, rfl, true, ρ', rfl, Or.inl ⟨rfl, c', by omega, by rw [lk, decide_eq_false hl]; rfl, hz', p2, p3⟩⟩
          · rw [if_neg ha]
            unfold mX11_findLack_b212
            rw [if_neg (show ¬ (1 : Int32) = 0 by decide)]
            exact Or.inl (skip (by rw [lk, decide_eq_false ha]; rfl))
        · rw [if_pos rfl, xts]
          exact Or.inr ⟨_, rfl, false, ρ', rfl, Or.inr ⟨rfl, more c1⟩⟩
      · rw [c_nlt (by omega) (by omega), xts]
        refine Or.inr ⟨_, rfl, false, ρ, rfl, Or.inr ⟨rfl, more fun d d1 d2 => ?_⟩⟩
        cases q : kv (fr2 T N k) d
        · rfl
        · have a := cnt_lt q d2
          have b : cntB (kv (fr2 T N k)) e ≤ cntB (kv (fr2 T N k)) d := cntB_mono _ d1
          omega)
    (nI 0, hk σ (rowUp I 425 ρ) L) ⟨0, ρ, rfl, hP, by omega, fun d hd => by omega⟩
  exact key
theorem kv_struck {T N : Nat → Nat} {k : Nat} (h : ∀ c, fls T N k (it N k 4 ||| kf c) (it N k 5 ||| ks c) ≠ 0) (d : Nat) : lok T N k d = false := by
  unfold lok
  rw [decide_eq_false (h d), Bool.and_false, Bool.and_false]
/-- findLack -/
theorem findLack_ok {T N : Nat → Nat} (h : CR σ I L T N) (hTh : Th I) {k : Nat} (hk' : k < N 18) :
    ∃ b I1 L1, mX11_findLack 100 (nI k) (hk σ I L) = some (bI b, hk σ I1 L1) ∧ FrC I L I1 L1 ∧ ((b = true ∧ ∃ c, c < 589824 ∧ lok T N k c = true ∧ (∀ d, d < c → lok T N k d = false) ∧ I1 425 2 = nI (kf c) ∧ I1 425 3 = nI (ks c)) ∨ (b = false ∧ ∀ d, d < 589824 → lok T N k d = false)) := by
  have hW := h.2.1
  have hN := h.2.2.1
  have hsa := h.1.2.1
  have hla := h.1.1
  have w1 := hW.1.2.1
  obtain ⟨i4, i5, i54⟩ := WN.say hW hN hk'
  obtain ⟨b18, b4, bm⟩ := hN.bkH hW
  have hb0 := (hN.2.2.2.2.1 k hk').1
  obtain ⟨r, e1, hr⟩ := remember_ok h
  have h2 : CR σ I (rowUp L 415 r) T N := h.upL (by omega)
  have f2 : FrC I L I (rowUp L 415 r) := FrC.rf.upL _ (by unfold scC; omega)
  have hr' : Rw ((rowUp L 415 r) 415) (lft T N) := by rw [rowUp_same]; exact hr
  obtain ⟨_, nm⟩ := needs_go (σ := σ) h2 hb0 wLeft hr'
  have br := barred_ok (σ := σ) h2 hb0 wLeft hr'
  have str : mX11_has (nI (bs (fun k => decide (it N k 6 = 1)) (N 18))) (nI k) = some (bI (decide (it N k 6 = 1))) := by
    have := bs_lt (fun k => decide (it N k 6 = 1)) (N 18)
    have := Nat.pow_le_pow_right (n := 2) (by omega) b18
    rw [has_nI (by omega) (by omega), bs_bit, decide_eq_true hk', Bool.true_and]
  unfold mX11_findLack
  rw [if_pos s100, e1, obind, ckind_ok h2 hk', obind, gSa, gI_st hsa, obind, h2.2.2.2.2.1.2.2.2.1, str, obind, bI_if0]
  by_cases hs : it N k 6 = 1
  · rw [decide_eq_true hs, if_neg nTF]
    exact ⟨false, _, _, rfl, f2, Or.inr ⟨rfl, fun d _ => kv_struck (fun c z => (fls_0.mp z).1 hs) d⟩⟩
  · rw [decide_eq_false hs, if_pos rfl, gLa, gLeft, nm, obind, bI_if0]
    cases hm : allB (fun i => meets T (lft T N) (T (31 + 4 * it N k 0 + i))) (T (26 + it N k 0))
    · rw [if_pos rfl]
      exact ⟨false, _, _, rfl, f2, Or.inr ⟨rfl, fun d _ => kv_struck (fun c z => by have := (fls_0.mp z).2.2.2.1; rw [hm] at this; cases this) d⟩⟩
    · rw [if_neg nTF, gLa, gLeft, br, obind, bI_if0]
      cases hb : anyB (fun p => plq T (it N k 0) p && sure T (lft T N) (T (72 + p))) (T 4)
      · rw [if_pos rfl]
        unfold mX11_findLack_l58
        have So : it N k 4 ||| it N k 5 < 256 := Nat.or_lt_two_pow (n := 8) i4 i5
        obtain ⟨o, e, hP⟩ := lp_inv (f := fun s : Int32 × Hp => mX11_findLack_l58f 100 (nI k) (nI (it N k 0)) s.1 s.2) 256 (fun i st => ∃ r0, st = (nI i, hk σ (rowUp I 422 r0) (rowUp L 415 r)) ∧ ∀ w, w < i → r0 w = nI (flv T (it N k 0) w))
          (fun o => ∃ b I1 L1, o = (bI b, hk σ I1 L1) ∧ FrC I L I1 L1 ∧ ((b = true ∧ ∃ c, c < 589824 ∧ lok T N k c = true ∧ (∀ d, d < c → lok T N k d = false) ∧ I1 425 2 = nI (kf c) ∧ I1 425 3 = nI (ks c)) ∨ (b = false ∧ ∀ d, d < 589824 → lok T N k d = false)))
          (fun i st hi hQ => by
            obtain ⟨r0, rfl, h0⟩ := hQ
            have hx : CR σ (rowUp I 422 r0) (rowUp L 415 r) T N := h2.upI (by omega)
            refine ⟨_, ?_, updA r0 i (nI (flv T (it N k 0) i)), rfl, fun w hw => ?_⟩
            · show mX11_findLack_l58f 100 (nI k) (nI (it N k 0)) (nI i) (hk σ (rowUp I 422 r0) (rowUp L 415 r)) = _
              unfold mX11_findLack_l58f
              rw [show (256 : Int32) = nI 256 from rfl, c_lt hi (by omega), gTree, gLa, flaws_ok hx hb0 hi, obind, setLeaf_ok hi, obind, nI_1]
            · rw [updA_at]
              by_cases q : w = i
              · subst q; rw [if_pos rfl]
              · rw [if_neg q]; exact h0 w (by omega))
          (fun st hQ => by
            obtain ⟨r0, rfl, h0⟩ := hQ
            have f0 : FrC I L (rowUp I 422 r0) (rowUp L 415 r) := f2.upI _ (by unfold scC; omega)
            have hx : CR σ (rowUp I 422 r0) (rowUp L 415 r) T N := h.fr f0
            obtain ⟨_, _, _, _, s5, s6⟩ := hx.2.2.2.2.2 k hk'
            have hFr := fr2_lt (N := N) (k := k) hW
            have f12 : fr2 T N k &&& it N k 5 = 0 := by
              apply Nat.eq_of_testBit_eq; intro i
              have h1 := congrArg (fun x => x.testBit i) i54
              simp only [Nat.testBit_and] at h1
              rw [Nat.testBit_and, fr2_bit, Nat.zero_testBit, ← h1]
              cases decide (i < T 1) <;> cases (it N k 4).testBit i <;> cases (it N k 5).testBit i <;> rfl
            obtain ⟨r3, e3, h3⟩ := grow_ok (σ := σ) (L := rowUp L 415 r) (hTh.up (a := 422) r0 (by decide)) (lv := flv T (it N k 0)) (fun w hw => by rw [rowUp_same]; exact h0 w hw) hFr i5 f12
            obtain ⟨J, hJ⟩ : ∃ J, J = rowUp (rowUp (rowUp I 422 r0) 420 (updA (rowUp I 422 r0 420) 4 (nI (fr2 T N k)))) 423 r3 := ⟨_, rfl⟩
            rw [← hJ] at e3
            have f3 : FrC I L J (rowUp L 415 r) := by rw [hJ]; exact (f0.upI (a := 420) _ (by unfold scC; omega)).upI (a := 423) r3 (by unfold scC; omega)
            have hy : CR σ J (rowUp L 415 r) T N := h.fr f3
            obtain ⟨rb, e4, hbk⟩ := workBacks_ok hy (k := k) (by omega)
            have f4 : FrC I L (rowUp J 432 rb) (rowUp L 415 r) := f3.upI (a := 432) rb (by unfold scC; omega)
            have j4 : (rowUp J 432 rb) 420 4 = nI (fr2 T N k) := by
              rw [rowUp_at, if_neg (by decide), hJ, rowUp_at, if_neg (by decide), rowUp_same, updA_same]
            obtain ⟨b, ρ', e5, h5⟩ := clackL_ok (σ := σ) (I := rowUp J 432 rb) (L := rowUp L 415 r) (h.fr f4) (hTh.frC f4) hk' hs hm hb (fun o ho => by rw [rowUp_same]; exact hbk o ho) j4
              (fun fs so a1 a2 => by rw [rowUp_at, if_neg (by decide), hJ, rowUp_same]; exact h3 fs so a1 a2)
              (updA (updA (updA (updA (updA ((rowUp J 432 rb) 425) 0 (nI (fr2 T N k))) 1 0) 2 0) 3 0) 4 0) (by
                refine ⟨?_, Or.inl ⟨rfl, ?_, ?_, ?_, ?_⟩⟩
                · rw [updA_ne _ _ (by omega), updA_ne _ _ (by omega), updA_ne _ _ (by omega), updA_ne _ _ (by omega), updA_same]
                · rw [updA_ne _ _ (by omega), updA_ne _ _ (by omega), updA_ne _ _ (by omega), updA_same]
                · rw [updA_ne _ _ (by omega), updA_ne _ _ (by omega), updA_same]
                · rw [updA_ne _ _ (by omega), updA_same]
                · rw [updA_same])
            have p2 : 2 ^ T 1 < 2147483648 := by have := ev_lt w1; omega
            refine ⟨_, ?_, b, _, _, rfl, f4.upI (a := 425) ρ' (by unfold scC; omega), by rw [rowUp_same]; exact h5⟩
            show mX11_findLack_l58f 100 (nI k) (nI (it N k 0)) (nI 256) (hk σ (rowUp I 422 r0) (rowUp L 415 r)) = _
            unfold mX11_findLack_l58f mX3_start
            rw [if_neg (by decide), gSa, gR_st hsa, obind, RF_st_13 σ hsa, at_r (SH_st5 hsa) (by omega) (by omega), obind, s5, gTree, gLa, gI_la hla, obind, hx.2.2.2.1.1.2.1, gSa, gR_st hsa, obind, RF_st_14 σ hsa, at_r (SH_st6 hsa) (by omega) (by omega), obind, s6, shl1 (by omega), nI_s1 (Nat.one_le_two_pow), nx_not (by omega)]
            rw [show (2 ^ T 1 - 1) ^^^ ((2 ^ T 1 - 1) &&& it N k 4) = fr2 T N k from rfl, e3, obind, e4, obind, gPick, gTree, gI_o 4 (n := 5) rfl, obind, j4, if_pos s425, sI_ok s425, obind, setI_hk, hpI_hk', sI_ok s425, obind, setI_hk, rowUp_two, hpI_hk', rowUp_same, sI_ok s425, obind, setI_hk, rowUp_two, hpI_hk', rowUp_same, sI_ok s425, obind, setI_hk, rowUp_two, hpI_hk', rowUp_same, sZ_ok s425 (Or.inl rfl), obind, setI_hk, rowUp_two, hpI_hk', rowUp_same, obind, e5, xts]) (s := (nI 0, hk σ (rowUp I 422 (I 422)) (rowUp L 415 r))) ⟨I 422, rfl, fun w hw => absurd hw (Nat.not_lt_zero _)⟩
        rw [rowUp_id] at e
        obtain ⟨b, I1, L1, rfl, q1, q2⟩ := hP
        exact ⟨b, I1, L1, e, q1, q2⟩
      · rw [if_neg nTF]
        refine ⟨false, _, _, rfl, f2, Or.inr ⟨rfl, fun d _ => kv_struck (fun c z => ?_) d⟩⟩
        have a := (fls_0.mp z).2.2.2.2.1
        rw [← any_or2, hb, Bool.or_true] at a
        cases a
end LackC
